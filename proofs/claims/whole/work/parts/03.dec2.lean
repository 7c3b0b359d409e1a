theorem dX3_put_0 : decode cX3_put 0 = .ok (.aload_n 2, 1) := by decide +kernel
theorem dX3_put_1 : decode cX3_put 1 = .ok (.iload_n 3, 1) := by decide +kernel
theorem dX3_put_2 : decode cX3_put 2 = .ok (.aload_n 0, 1) := by decide +kernel
theorem dX3_put_3 : decode cX3_put 3 = .ok (.getfield 15, 3) := by decide +kernel
theorem dX3_put_6 : decode cX3_put 6 = .ok (.iload_n 1, 1) := by decide +kernel
theorem dX3_put_7 : decode cX3_put 7 = .ok (.bipush 24, 2) := by decide +kernel
theorem dX3_put_9 : decode cX3_put 9 = .ok (.imul, 1) := by decide +kernel
theorem dX3_put_10 : decode cX3_put 10 = .ok (.iload 4, 2) := by decide +kernel
theorem dX3_put_12 : decode cX3_put 12 = .ok (.invokestatic 18, 3) := by decide +kernel
theorem dX3_put_15 : decode cX3_put 15 = .ok (.aload_n 0, 1) := by decide +kernel
theorem dX3_put_16 : decode cX3_put 16 = .ok (.getfield 9, 3) := by decide +kernel
theorem dX3_put_19 : decode cX3_put 19 = .ok (.iload_n 1, 1) := by decide +kernel
theorem dX3_put_20 : decode cX3_put 20 = .ok (.iload 4, 2) := by decide +kernel
theorem dX3_put_22 : decode cX3_put 22 = .ok (.iastore, 1) := by decide +kernel
theorem dX3_put_23 : decode cX3_put 23 = .ok (.return_, 1) := by decide +kernel
theorem dX3_byteOf_0 : decode cX3_byteOf 0 = .ok (.aload_n 0, 1) := by decide +kernel
theorem dX3_byteOf_1 : decode cX3_byteOf 1 = .ok (.getfield 15, 3) := by decide +kernel
theorem dX3_byteOf_4 : decode cX3_byteOf 4 = .ok (.iload_n 1, 1) := by decide +kernel
theorem dX3_byteOf_5 : decode cX3_byteOf 5 = .ok (.bipush 24, 2) := by decide +kernel
theorem dX3_byteOf_7 : decode cX3_byteOf 7 = .ok (.imul, 1) := by decide +kernel
theorem dX3_byteOf_8 : decode cX3_byteOf 8 = .ok (.iload_n 2, 1) := by decide +kernel
theorem dX3_byteOf_9 : decode cX3_byteOf 9 = .ok (.iadd, 1) := by decide +kernel
theorem dX3_byteOf_10 : decode cX3_byteOf 10 = .ok (.iaload, 1) := by decide +kernel
theorem dX3_byteOf_11 : decode cX3_byteOf 11 = .ok (.ireturn, 1) := by decide +kernel
theorem dX3_copyFrom_0 : decode cX3_copyFrom 0 = .ok (.aload_n 1, 1) := by decide +kernel
theorem dX3_copyFrom_1 : decode cX3_copyFrom 1 = .ok (.getfield 9, 3) := by decide +kernel
theorem dX3_copyFrom_4 : decode cX3_copyFrom 4 = .ok (.iconst 0, 1) := by decide +kernel
theorem dX3_copyFrom_5 : decode cX3_copyFrom 5 = .ok (.aload_n 0, 1) := by decide +kernel
theorem dX3_copyFrom_6 : decode cX3_copyFrom 6 = .ok (.getfield 9, 3) := by decide +kernel
theorem dX3_copyFrom_9 : decode cX3_copyFrom 9 = .ok (.iconst 0, 1) := by decide +kernel
theorem dX3_copyFrom_10 : decode cX3_copyFrom 10 = .ok (.aload_n 0, 1) := by decide +kernel
theorem dX3_copyFrom_11 : decode cX3_copyFrom 11 = .ok (.getfield 9, 3) := by decide +kernel
theorem dX3_copyFrom_14 : decode cX3_copyFrom 14 = .ok (.arraylength, 1) := by decide +kernel
theorem dX3_copyFrom_15 : decode cX3_copyFrom 15 = .ok (.invokestatic 18, 3) := by decide +kernel
theorem dX3_copyFrom_18 : decode cX3_copyFrom 18 = .ok (.aload_n 1, 1) := by decide +kernel
theorem dX3_copyFrom_19 : decode cX3_copyFrom 19 = .ok (.getfield 15, 3) := by decide +kernel
theorem dX3_copyFrom_22 : decode cX3_copyFrom 22 = .ok (.iconst 0, 1) := by decide +kernel
theorem dX3_copyFrom_23 : decode cX3_copyFrom 23 = .ok (.aload_n 0, 1) := by decide +kernel
theorem dX3_copyFrom_24 : decode cX3_copyFrom 24 = .ok (.getfield 15, 3) := by decide +kernel
theorem dX3_copyFrom_27 : decode cX3_copyFrom 27 = .ok (.iconst 0, 1) := by decide +kernel
theorem dX3_copyFrom_28 : decode cX3_copyFrom 28 = .ok (.aload_n 0, 1) := by decide +kernel
theorem dX3_copyFrom_29 : decode cX3_copyFrom 29 = .ok (.getfield 15, 3) := by decide +kernel
theorem dX3_copyFrom_32 : decode cX3_copyFrom 32 = .ok (.arraylength, 1) := by decide +kernel
theorem dX3_copyFrom_33 : decode cX3_copyFrom 33 = .ok (.invokestatic 18, 3) := by decide +kernel
theorem dX3_copyFrom_36 : decode cX3_copyFrom 36 = .ok (.return_, 1) := by decide +kernel
theorem dX4_init_0 : decode cX4_init 0 = .ok (.aload_n 0, 1) := by decide +kernel
theorem dX4_init_1 : decode cX4_init 1 = .ok (.invokespecial 3, 3) := by decide +kernel
theorem dX4_init_4 : decode cX4_init 4 = .ok (.aload_n 0, 1) := by decide +kernel
theorem dX4_init_5 : decode cX4_init 5 = .ok (.bipush 12, 2) := by decide +kernel
theorem dX4_init_7 : decode cX4_init 7 = .ok (.anewarray 9, 3) := by decide +kernel
theorem dX4_init_10 : decode cX4_init 10 = .ok (.putfield 11, 3) := by decide +kernel
theorem dX4_init_13 : decode cX4_init 13 = .ok (.iconst 0, 1) := by decide +kernel
theorem dX4_init_14 : decode cX4_init 14 = .ok (.istore_n 1, 1) := by decide +kernel
theorem dX4_init_15 : decode cX4_init 15 = .ok (.iload_n 1, 1) := by decide +kernel
theorem dX4_init_16 : decode cX4_init 16 = .ok (.aload_n 0, 1) := by decide +kernel
theorem dX4_init_17 : decode cX4_init 17 = .ok (.getfield 11, 3) := by decide +kernel
theorem dX4_init_20 : decode cX4_init 20 = .ok (.arraylength, 1) := by decide +kernel
theorem dX4_init_21 : decode cX4_init 21 = .ok (.if_icmp .ge 22, 3) := by decide +kernel
theorem dX4_init_24 : decode cX4_init 24 = .ok (.aload_n 0, 1) := by decide +kernel
theorem dX4_init_25 : decode cX4_init 25 = .ok (.getfield 11, 3) := by decide +kernel
theorem dX4_init_28 : decode cX4_init 28 = .ok (.iload_n 1, 1) := by decide +kernel
theorem dX4_init_29 : decode cX4_init 29 = .ok (.new 9, 3) := by decide +kernel
theorem dX4_init_32 : decode cX4_init 32 = .ok (.dup, 1) := by decide +kernel
theorem dX4_init_33 : decode cX4_init 33 = .ok (.invokespecial 17, 3) := by decide +kernel
theorem dX4_init_36 : decode cX4_init 36 = .ok (.aastore, 1) := by decide +kernel
theorem dX4_init_37 : decode cX4_init 37 = .ok (.iinc 1 1, 3) := by decide +kernel
theorem dX4_init_40 : decode cX4_init 40 = .ok (.goto (-25), 3) := by decide +kernel
theorem dX4_init_43 : decode cX4_init 43 = .ok (.return_, 1) := by decide +kernel
theorem dX4_layOneMore_0 : decode cX4_layOneMore 0 = .ok (.aload_n 0, 1) := by decide +kernel
theorem dX4_layOneMore_1 : decode cX4_layOneMore 1 = .ok (.getfield 18, 3) := by decide +kernel
theorem dX4_layOneMore_4 : decode cX4_layOneMore 4 = .ok (.bipush 12, 2) := by decide +kernel
theorem dX4_layOneMore_6 : decode cX4_layOneMore 6 = .ok (.if_icmp .lt 9, 3) := by decide +kernel
theorem dX4_layOneMore_9 : decode cX4_layOneMore 9 = .ok (.aload_n 0, 1) := by decide +kernel
theorem dX4_layOneMore_10 : decode cX4_layOneMore 10 = .ok (.iconst 0, 1) := by decide +kernel
theorem dX4_layOneMore_11 : decode cX4_layOneMore 11 = .ok (.invokevirtual 22, 3) := by decide +kernel
theorem dX4_layOneMore_14 : decode cX4_layOneMore 14 = .ok (.pop, 1) := by decide +kernel
theorem dX4_layOneMore_15 : decode cX4_layOneMore 15 = .ok (.aload_n 0, 1) := by decide +kernel
theorem dX4_layOneMore_16 : decode cX4_layOneMore 16 = .ok (.getfield 11, 3) := by decide +kernel
theorem dX4_layOneMore_19 : decode cX4_layOneMore 19 = .ok (.aload_n 0, 1) := by decide +kernel
theorem dX4_layOneMore_20 : decode cX4_layOneMore 20 = .ok (.getfield 18, 3) := by decide +kernel
theorem dX4_layOneMore_23 : decode cX4_layOneMore 23 = .ok (.aaload, 1) := by decide +kernel
theorem dX4_layOneMore_24 : decode cX4_layOneMore 24 = .ok (.astore_n 2, 1) := by decide +kernel
theorem dX4_layOneMore_25 : decode cX4_layOneMore 25 = .ok (.aload_n 2, 1) := by decide +kernel
theorem dX4_layOneMore_26 : decode cX4_layOneMore 26 = .ok (.iload_n 1, 1) := by decide +kernel
theorem dX4_layOneMore_27 : decode cX4_layOneMore 27 = .ok (.putfield 26, 3) := by decide +kernel
theorem dX4_layOneMore_30 : decode cX4_layOneMore 30 = .ok (.aload_n 0, 1) := by decide +kernel
theorem dX4_layOneMore_31 : decode cX4_layOneMore 31 = .ok (.dup, 1) := by decide +kernel
theorem dX4_layOneMore_32 : decode cX4_layOneMore 32 = .ok (.getfield 18, 3) := by decide +kernel
theorem dX4_layOneMore_35 : decode cX4_layOneMore 35 = .ok (.iconst 1, 1) := by decide +kernel
theorem dX4_layOneMore_36 : decode cX4_layOneMore 36 = .ok (.iadd, 1) := by decide +kernel
theorem dX4_layOneMore_37 : decode cX4_layOneMore 37 = .ok (.putfield 18, 3) := by decide +kernel
theorem dX4_layOneMore_40 : decode cX4_layOneMore 40 = .ok (.aload_n 2, 1) := by decide +kernel
theorem dX4_layOneMore_41 : decode cX4_layOneMore 41 = .ok (.areturn, 1) := by decide +kernel
theorem dX4_takeOff_0 : decode cX4_takeOff 0 = .ok (.aload_n 0, 1) := by decide +kernel
theorem dX4_takeOff_1 : decode cX4_takeOff 1 = .ok (.getfield 11, 3) := by decide +kernel
theorem dX4_takeOff_4 : decode cX4_takeOff 4 = .ok (.iload_n 1, 1) := by decide +kernel
theorem dX4_takeOff_5 : decode cX4_takeOff 5 = .ok (.aaload, 1) := by decide +kernel
theorem dX4_takeOff_6 : decode cX4_takeOff 6 = .ok (.astore_n 2, 1) := by decide +kernel
theorem dX4_takeOff_7 : decode cX4_takeOff 7 = .ok (.aload_n 0, 1) := by decide +kernel
theorem dX4_takeOff_8 : decode cX4_takeOff 8 = .ok (.dup, 1) := by decide +kernel
theorem dX4_takeOff_9 : decode cX4_takeOff 9 = .ok (.getfield 18, 3) := by decide +kernel
theorem dX4_takeOff_12 : decode cX4_takeOff 12 = .ok (.iconst 1, 1) := by decide +kernel
theorem dX4_takeOff_13 : decode cX4_takeOff 13 = .ok (.isub, 1) := by decide +kernel
theorem dX4_takeOff_14 : decode cX4_takeOff 14 = .ok (.putfield 18, 3) := by decide +kernel
theorem dX4_takeOff_17 : decode cX4_takeOff 17 = .ok (.iload_n 1, 1) := by decide +kernel
theorem dX4_takeOff_18 : decode cX4_takeOff 18 = .ok (.istore_n 3, 1) := by decide +kernel
theorem dX4_takeOff_19 : decode cX4_takeOff 19 = .ok (.iload_n 3, 1) := by decide +kernel
theorem dX4_takeOff_20 : decode cX4_takeOff 20 = .ok (.aload_n 0, 1) := by decide +kernel
theorem dX4_takeOff_21 : decode cX4_takeOff 21 = .ok (.getfield 18, 3) := by decide +kernel
theorem dX4_takeOff_24 : decode cX4_takeOff 24 = .ok (.if_icmp .ge 23, 3) := by decide +kernel
theorem dX4_takeOff_27 : decode cX4_takeOff 27 = .ok (.aload_n 0, 1) := by decide +kernel
theorem dX4_takeOff_28 : decode cX4_takeOff 28 = .ok (.getfield 11, 3) := by decide +kernel
theorem dX4_takeOff_31 : decode cX4_takeOff 31 = .ok (.iload_n 3, 1) := by decide +kernel
theorem dX4_takeOff_32 : decode cX4_takeOff 32 = .ok (.aload_n 0, 1) := by decide +kernel
theorem dX4_takeOff_33 : decode cX4_takeOff 33 = .ok (.getfield 11, 3) := by decide +kernel
theorem dX4_takeOff_36 : decode cX4_takeOff 36 = .ok (.iload_n 3, 1) := by decide +kernel
theorem dX4_takeOff_37 : decode cX4_takeOff 37 = .ok (.iconst 1, 1) := by decide +kernel
theorem dX4_takeOff_38 : decode cX4_takeOff 38 = .ok (.iadd, 1) := by decide +kernel
theorem dX4_takeOff_39 : decode cX4_takeOff 39 = .ok (.aaload, 1) := by decide +kernel
theorem dX4_takeOff_40 : decode cX4_takeOff 40 = .ok (.aastore, 1) := by decide +kernel
theorem dX4_takeOff_41 : decode cX4_takeOff 41 = .ok (.iinc 3 1, 3) := by decide +kernel
theorem dX4_takeOff_44 : decode cX4_takeOff 44 = .ok (.goto (-25), 3) := by decide +kernel
theorem dX4_takeOff_47 : decode cX4_takeOff 47 = .ok (.aload_n 0, 1) := by decide +kernel
theorem dX4_takeOff_48 : decode cX4_takeOff 48 = .ok (.getfield 11, 3) := by decide +kernel
theorem dX4_takeOff_51 : decode cX4_takeOff 51 = .ok (.aload_n 0, 1) := by decide +kernel
theorem dX4_takeOff_52 : decode cX4_takeOff 52 = .ok (.getfield 18, 3) := by decide +kernel
theorem dX4_takeOff_55 : decode cX4_takeOff 55 = .ok (.aload_n 2, 1) := by decide +kernel
theorem dX4_takeOff_56 : decode cX4_takeOff 56 = .ok (.aastore, 1) := by decide +kernel
theorem dX4_takeOff_57 : decode cX4_takeOff 57 = .ok (.aload_n 2, 1) := by decide +kernel
theorem dX4_takeOff_58 : decode cX4_takeOff 58 = .ok (.areturn, 1) := by decide +kernel
theorem dX4_repeat_0 : decode cX4_repeat 0 = .ok (.aload_n 0, 1) := by decide +kernel
theorem dX4_repeat_1 : decode cX4_repeat 1 = .ok (.getfield 11, 3) := by decide +kernel
theorem dX4_repeat_4 : decode cX4_repeat 4 = .ok (.aload_n 0, 1) := by decide +kernel
theorem dX4_repeat_5 : decode cX4_repeat 5 = .ok (.getfield 18, 3) := by decide +kernel
theorem dX4_repeat_8 : decode cX4_repeat 8 = .ok (.aaload, 1) := by decide +kernel
theorem dX4_repeat_9 : decode cX4_repeat 9 = .ok (.astore_n 2, 1) := by decide +kernel
theorem dX4_repeat_10 : decode cX4_repeat 10 = .ok (.aload_n 2, 1) := by decide +kernel
theorem dX4_repeat_11 : decode cX4_repeat 11 = .ok (.aload_n 0, 1) := by decide +kernel
theorem dX4_repeat_12 : decode cX4_repeat 12 = .ok (.getfield 11, 3) := by decide +kernel
theorem dX4_repeat_15 : decode cX4_repeat 15 = .ok (.iload_n 1, 1) := by decide +kernel
theorem dX4_repeat_16 : decode cX4_repeat 16 = .ok (.aaload, 1) := by decide +kernel
theorem dX4_repeat_17 : decode cX4_repeat 17 = .ok (.invokevirtual 29, 3) := by decide +kernel
theorem dX4_repeat_20 : decode cX4_repeat 20 = .ok (.aload_n 0, 1) := by decide +kernel
theorem dX4_repeat_21 : decode cX4_repeat 21 = .ok (.getfield 18, 3) := by decide +kernel
theorem dX4_repeat_24 : decode cX4_repeat 24 = .ok (.istore_n 3, 1) := by decide +kernel
theorem dX4_repeat_25 : decode cX4_repeat 25 = .ok (.iload_n 3, 1) := by decide +kernel
theorem dX4_repeat_26 : decode cX4_repeat 26 = .ok (.iload_n 1, 1) := by decide +kernel
theorem dX4_repeat_27 : decode cX4_repeat 27 = .ok (.iconst 1, 1) := by decide +kernel
theorem dX4_repeat_28 : decode cX4_repeat 28 = .ok (.iadd, 1) := by decide +kernel
theorem dX4_repeat_29 : decode cX4_repeat 29 = .ok (.if_icmp .le 23, 3) := by decide +kernel
theorem dX4_repeat_32 : decode cX4_repeat 32 = .ok (.aload_n 0, 1) := by decide +kernel
theorem dX4_repeat_33 : decode cX4_repeat 33 = .ok (.getfield 11, 3) := by decide +kernel
theorem dX4_repeat_36 : decode cX4_repeat 36 = .ok (.iload_n 3, 1) := by decide +kernel
theorem dX4_repeat_37 : decode cX4_repeat 37 = .ok (.aload_n 0, 1) := by decide +kernel
theorem dX4_repeat_38 : decode cX4_repeat 38 = .ok (.getfield 11, 3) := by decide +kernel
theorem dX4_repeat_41 : decode cX4_repeat 41 = .ok (.iload_n 3, 1) := by decide +kernel
theorem dX4_repeat_42 : decode cX4_repeat 42 = .ok (.iconst 1, 1) := by decide +kernel
theorem dX4_repeat_43 : decode cX4_repeat 43 = .ok (.isub, 1) := by decide +kernel
theorem dX4_repeat_44 : decode cX4_repeat 44 = .ok (.aaload, 1) := by decide +kernel
theorem dX4_repeat_45 : decode cX4_repeat 45 = .ok (.aastore, 1) := by decide +kernel
theorem dX4_repeat_46 : decode cX4_repeat 46 = .ok (.iinc 3 (-1), 3) := by decide +kernel
theorem dX4_repeat_49 : decode cX4_repeat 49 = .ok (.goto (-24), 3) := by decide +kernel
theorem dX4_repeat_52 : decode cX4_repeat 52 = .ok (.aload_n 0, 1) := by decide +kernel
theorem dX4_repeat_53 : decode cX4_repeat 53 = .ok (.getfield 11, 3) := by decide +kernel
theorem dX4_repeat_56 : decode cX4_repeat 56 = .ok (.iload_n 1, 1) := by decide +kernel
theorem dX4_repeat_57 : decode cX4_repeat 57 = .ok (.iconst 1, 1) := by decide +kernel
theorem dX4_repeat_58 : decode cX4_repeat 58 = .ok (.iadd, 1) := by decide +kernel
theorem dX4_repeat_59 : decode cX4_repeat 59 = .ok (.aload_n 2, 1) := by decide +kernel
theorem dX4_repeat_60 : decode cX4_repeat 60 = .ok (.aastore, 1) := by decide +kernel
theorem dX4_repeat_61 : decode cX4_repeat 61 = .ok (.aload_n 0, 1) := by decide +kernel
theorem dX4_repeat_62 : decode cX4_repeat 62 = .ok (.dup, 1) := by decide +kernel
theorem dX4_repeat_63 : decode cX4_repeat 63 = .ok (.getfield 18, 3) := by decide +kernel
theorem dX4_repeat_66 : decode cX4_repeat 66 = .ok (.iconst 1, 1) := by decide +kernel
theorem dX4_repeat_67 : decode cX4_repeat 67 = .ok (.iadd, 1) := by decide +kernel
theorem dX4_repeat_68 : decode cX4_repeat 68 = .ok (.putfield 18, 3) := by decide +kernel
theorem dX4_repeat_71 : decode cX4_repeat 71 = .ok (.return_, 1) := by decide +kernel
theorem dX4_eldestOver_0 : decode cX4_eldestOver 0 = .ok (.iconst 0, 1) := by decide +kernel
theorem dX4_eldestOver_1 : decode cX4_eldestOver 1 = .ok (.istore_n 2, 1) := by decide +kernel
theorem dX4_eldestOver_2 : decode cX4_eldestOver 2 = .ok (.iload_n 2, 1) := by decide +kernel
theorem dX4_eldestOver_3 : decode cX4_eldestOver 3 = .ok (.aload_n 0, 1) := by decide +kernel
theorem dX4_eldestOver_4 : decode cX4_eldestOver 4 = .ok (.getfield 18, 3) := by decide +kernel
theorem dX4_eldestOver_7 : decode cX4_eldestOver 7 = .ok (.if_icmp .ge 24, 3) := by decide +kernel
theorem dX4_eldestOver_10 : decode cX4_eldestOver 10 = .ok (.aload_n 0, 1) := by decide +kernel
theorem dX4_eldestOver_11 : decode cX4_eldestOver 11 = .ok (.getfield 11, 3) := by decide +kernel
theorem dX4_eldestOver_14 : decode cX4_eldestOver 14 = .ok (.iload_n 2, 1) := by decide +kernel
theorem dX4_eldestOver_15 : decode cX4_eldestOver 15 = .ok (.aaload, 1) := by decide +kernel
theorem dX4_eldestOver_16 : decode cX4_eldestOver 16 = .ok (.getfield 26, 3) := by decide +kernel
theorem dX4_eldestOver_19 : decode cX4_eldestOver 19 = .ok (.iload_n 1, 1) := by decide +kernel
theorem dX4_eldestOver_20 : decode cX4_eldestOver 20 = .ok (.if_icmp .gt 5, 3) := by decide +kernel
theorem dX4_eldestOver_23 : decode cX4_eldestOver 23 = .ok (.iload_n 2, 1) := by decide +kernel
theorem dX4_eldestOver_24 : decode cX4_eldestOver 24 = .ok (.ireturn, 1) := by decide +kernel
theorem dX4_eldestOver_25 : decode cX4_eldestOver 25 = .ok (.iinc 2 1, 3) := by decide +kernel
theorem dX4_eldestOver_28 : decode cX4_eldestOver 28 = .ok (.goto (-26), 3) := by decide +kernel
theorem dX4_eldestOver_31 : decode cX4_eldestOver 31 = .ok (.iconst (-1), 1) := by decide +kernel
theorem dX4_eldestOver_32 : decode cX4_eldestOver 32 = .ok (.ireturn, 1) := by decide +kernel
theorem dX4_copyFrom_0 : decode cX4_copyFrom 0 = .ok (.aload_n 0, 1) := by decide +kernel
theorem dX4_copyFrom_1 : decode cX4_copyFrom 1 = .ok (.aload_n 1, 1) := by decide +kernel
theorem dX4_copyFrom_2 : decode cX4_copyFrom 2 = .ok (.getfield 18, 3) := by decide +kernel
theorem dX4_copyFrom_5 : decode cX4_copyFrom 5 = .ok (.putfield 18, 3) := by decide +kernel
theorem dX4_copyFrom_8 : decode cX4_copyFrom 8 = .ok (.iconst 0, 1) := by decide +kernel
theorem dX4_copyFrom_9 : decode cX4_copyFrom 9 = .ok (.istore_n 2, 1) := by decide +kernel
theorem dX4_copyFrom_10 : decode cX4_copyFrom 10 = .ok (.iload_n 2, 1) := by decide +kernel
theorem dX4_copyFrom_11 : decode cX4_copyFrom 11 = .ok (.aload_n 0, 1) := by decide +kernel
theorem dX4_copyFrom_12 : decode cX4_copyFrom 12 = .ok (.getfield 18, 3) := by decide +kernel
theorem dX4_copyFrom_15 : decode cX4_copyFrom 15 = .ok (.if_icmp .ge 24, 3) := by decide +kernel
theorem dX4_copyFrom_18 : decode cX4_copyFrom 18 = .ok (.aload_n 0, 1) := by decide +kernel
theorem dX4_copyFrom_19 : decode cX4_copyFrom 19 = .ok (.getfield 11, 3) := by decide +kernel
theorem dX4_copyFrom_22 : decode cX4_copyFrom 22 = .ok (.iload_n 2, 1) := by decide +kernel
theorem dX4_copyFrom_23 : decode cX4_copyFrom 23 = .ok (.aaload, 1) := by decide +kernel
theorem dX4_copyFrom_24 : decode cX4_copyFrom 24 = .ok (.aload_n 1, 1) := by decide +kernel
theorem dX4_copyFrom_25 : decode cX4_copyFrom 25 = .ok (.getfield 11, 3) := by decide +kernel
theorem dX4_copyFrom_28 : decode cX4_copyFrom 28 = .ok (.iload_n 2, 1) := by decide +kernel
theorem dX4_copyFrom_29 : decode cX4_copyFrom 29 = .ok (.aaload, 1) := by decide +kernel
theorem dX4_copyFrom_30 : decode cX4_copyFrom 30 = .ok (.invokevirtual 29, 3) := by decide +kernel
theorem dX4_copyFrom_33 : decode cX4_copyFrom 33 = .ok (.iinc 2 1, 3) := by decide +kernel
theorem dX4_copyFrom_36 : decode cX4_copyFrom 36 = .ok (.goto (-26), 3) := by decide +kernel
theorem dX4_copyFrom_39 : decode cX4_copyFrom 39 = .ok (.return_, 1) := by decide +kernel
theorem dX5_init_0 : decode cX5_init 0 = .ok (.aload_n 0, 1) := by decide +kernel
theorem dX5_init_1 : decode cX5_init 1 = .ok (.invokespecial 1, 3) := by decide +kernel
theorem dX5_init_4 : decode cX5_init 4 = .ok (.aload_n 0, 1) := by decide +kernel
theorem dX5_init_5 : decode cX5_init 5 = .ok (.new 7, 3) := by decide +kernel
theorem dX5_init_8 : decode cX5_init 8 = .ok (.dup, 1) := by decide +kernel
theorem dX5_init_9 : decode cX5_init 9 = .ok (.invokespecial 9, 3) := by decide +kernel
theorem dX5_init_12 : decode cX5_init 12 = .ok (.putfield 10, 3) := by decide +kernel
theorem dX5_init_15 : decode cX5_init 15 = .ok (.aload_n 0, 1) := by decide +kernel
theorem dX5_init_16 : decode cX5_init 16 = .ok (.iconst 2, 1) := by decide +kernel
theorem dX5_init_17 : decode cX5_init 17 = .ok (.anewarray 7, 3) := by decide +kernel
theorem dX5_init_20 : decode cX5_init 20 = .ok (.putfield 16, 3) := by decide +kernel
theorem dX5_init_23 : decode cX5_init 23 = .ok (.return_, 1) := by decide +kernel
theorem dX5_draft_0 : decode cX5_draft 0 = .ok (.iload_n 1, 1) := by decide +kernel
theorem dX5_draft_1 : decode cX5_draft 1 = .ok (.invokestatic 20, 3) := by decide +kernel
theorem dX5_draft_4 : decode cX5_draft 4 = .ok (.ifCond .ne 14, 3) := by decide +kernel
theorem dX5_draft_7 : decode cX5_draft 7 = .ok (.iload_n 2, 1) := by decide +kernel
theorem dX5_draft_8 : decode cX5_draft 8 = .ok (.iconst 1, 1) := by decide +kernel
theorem dX5_draft_9 : decode cX5_draft 9 = .ok (.if_icmp .lt 9, 3) := by decide +kernel
theorem dX5_draft_12 : decode cX5_draft 12 = .ok (.iload_n 2, 1) := by decide +kernel
theorem dX5_draft_13 : decode cX5_draft 13 = .ok (.bipush 8, 2) := by decide +kernel
theorem dX5_draft_15 : decode cX5_draft 15 = .ok (.if_icmp .le 5, 3) := by decide +kernel
theorem dX5_draft_18 : decode cX5_draft 18 = .ok (.iconst (-1), 1) := by decide +kernel
theorem dX5_draft_19 : decode cX5_draft 19 = .ok (.ireturn, 1) := by decide +kernel
theorem dX5_draft_20 : decode cX5_draft 20 = .ok (.aload_n 0, 1) := by decide +kernel
theorem dX5_draft_21 : decode cX5_draft 21 = .ok (.getfield 10, 3) := by decide +kernel
theorem dX5_draft_24 : decode cX5_draft 24 = .ok (.getfield 24, 3) := by decide +kernel
theorem dX5_draft_27 : decode cX5_draft 27 = .ok (.iload_n 1, 1) := by decide +kernel
theorem dX5_draft_28 : decode cX5_draft 28 = .ok (.aaload, 1) := by decide +kernel
theorem dX5_draft_29 : decode cX5_draft 29 = .ok (.astore 5, 2) := by decide +kernel
theorem dX5_draft_31 : decode cX5_draft 31 = .ok (.aload 5, 2) := by decide +kernel
theorem dX5_draft_33 : decode cX5_draft 33 = .ok (.getfield 28, 3) := by decide +kernel
theorem dX5_draft_36 : decode cX5_draft 36 = .ok (.iload_n 2, 1) := by decide +kernel
theorem dX5_draft_37 : decode cX5_draft 37 = .ok (.iadd, 1) := by decide +kernel
theorem dX5_draft_38 : decode cX5_draft 38 = .ok (.bipush 24, 2) := by decide +kernel
theorem dX5_draft_40 : decode cX5_draft 40 = .ok (.if_icmp .le 6, 3) := by decide +kernel
theorem dX5_draft_43 : decode cX5_draft 43 = .ok (.bipush (-3), 2) := by decide +kernel
theorem dX5_draft_45 : decode cX5_draft 45 = .ok (.ireturn, 1) := by decide +kernel
theorem dX5_draft_46 : decode cX5_draft 46 = .ok (.aload 5, 2) := by decide +kernel
theorem dX5_draft_48 : decode cX5_draft 48 = .ok (.iload_n 2, 1) := by decide +kernel
theorem dX5_draft_49 : decode cX5_draft 49 = .ok (.lload_n 3, 1) := by decide +kernel
theorem dX5_draft_50 : decode cX5_draft 50 = .ok (.invokevirtual 34, 3) := by decide +kernel
theorem dX5_draft_53 : decode cX5_draft 53 = .ok (.aload 5, 2) := by decide +kernel
theorem dX5_draft_55 : decode cX5_draft 55 = .ok (.getfield 28, 3) := by decide +kernel
theorem dX5_draft_58 : decode cX5_draft 58 = .ok (.ireturn, 1) := by decide +kernel
theorem dX5_offer_0 : decode cX5_offer 0 = .ok (.iload_n 1, 1) := by decide +kernel
theorem dX5_offer_1 : decode cX5_offer 1 = .ok (.invokestatic 20, 3) := by decide +kernel
theorem dX5_offer_4 : decode cX5_offer 4 = .ok (.ifCond .eq 5, 3) := by decide +kernel
theorem dX5_offer_7 : decode cX5_offer 7 = .ok (.iconst (-1), 1) := by decide +kernel
theorem dX5_offer_8 : decode cX5_offer 8 = .ok (.ireturn, 1) := by decide +kernel
theorem dX5_offer_9 : decode cX5_offer 9 = .ok (.aload_n 0, 1) := by decide +kernel
theorem dX5_offer_10 : decode cX5_offer 10 = .ok (.getfield 10, 3) := by decide +kernel
theorem dX5_offer_13 : decode cX5_offer 13 = .ok (.getfield 24, 3) := by decide +kernel
theorem dX5_offer_16 : decode cX5_offer 16 = .ok (.iload_n 1, 1) := by decide +kernel
theorem dX5_offer_17 : decode cX5_offer 17 = .ok (.aaload, 1) := by decide +kernel
theorem dX5_offer_18 : decode cX5_offer 18 = .ok (.astore_n 2, 1) := by decide +kernel
theorem dX5_offer_19 : decode cX5_offer 19 = .ok (.aload_n 2, 1) := by decide +kernel
theorem dX5_offer_20 : decode cX5_offer 20 = .ok (.getfield 28, 3) := by decide +kernel
theorem dX5_offer_23 : decode cX5_offer 23 = .ok (.ifCond .ne 6, 3) := by decide +kernel
theorem dX5_offer_26 : decode cX5_offer 26 = .ok (.bipush (-2), 2) := by decide +kernel
theorem dX5_offer_28 : decode cX5_offer 28 = .ok (.ireturn, 1) := by decide +kernel
theorem dX5_offer_29 : decode cX5_offer 29 = .ok (.aload_n 2, 1) := by decide +kernel
theorem dX5_offer_30 : decode cX5_offer 30 = .ok (.invokevirtual 38, 3) := by decide +kernel
theorem dX5_offer_33 : decode cX5_offer 33 = .ok (.bipush 16, 2) := by decide +kernel
theorem dX5_offer_35 : decode cX5_offer 35 = .ok (.if_icmp .ge 12, 3) := by decide +kernel
theorem dX5_offer_38 : decode cX5_offer 38 = .ok (.aload_n 2, 1) := by decide +kernel
theorem dX5_offer_39 : decode cX5_offer 39 = .ok (.getfield 42, 3) := by decide +kernel
theorem dX5_offer_42 : decode cX5_offer 42 = .ok (.bipush 60, 2) := by decide +kernel
theorem dX5_offer_44 : decode cX5_offer 44 = .ok (.if_icmp .lt 6, 3) := by decide +kernel
theorem dX5_offer_47 : decode cX5_offer 47 = .ok (.bipush (-3), 2) := by decide +kernel
theorem dX5_offer_49 : decode cX5_offer 49 = .ok (.ireturn, 1) := by decide +kernel
theorem dX5_offer_50 : decode cX5_offer 50 = .ok (.aload_n 2, 1) := by decide +kernel
theorem dX5_offer_51 : decode cX5_offer 51 = .ok (.invokevirtual 45, 3) := by decide +kernel
theorem dX5_offer_54 : decode cX5_offer 54 = .ok (.aload_n 2, 1) := by decide +kernel
theorem dX5_offer_55 : decode cX5_offer 55 = .ok (.invokevirtual 38, 3) := by decide +kernel
theorem dX5_offer_58 : decode cX5_offer 58 = .ok (.ireturn, 1) := by decide +kernel
theorem dX5_check_0 : decode cX5_check 0 = .ok (.iload_n 1, 1) := by decide +kernel
theorem dX5_check_1 : decode cX5_check 1 = .ok (.invokestatic 20, 3) := by decide +kernel
theorem dX5_check_4 : decode cX5_check 4 = .ok (.ifCond .ne 12, 3) := by decide +kernel
theorem dX5_check_7 : decode cX5_check 7 = .ok (.iload_n 2, 1) := by decide +kernel
theorem dX5_check_8 : decode cX5_check 8 = .ok (.ifCond .lt 8, 3) := by decide +kernel
theorem dX5_check_11 : decode cX5_check 11 = .ok (.iload_n 2, 1) := by decide +kernel
theorem dX5_check_12 : decode cX5_check 12 = .ok (.iconst 1, 1) := by decide +kernel
theorem dX5_check_13 : decode cX5_check 13 = .ok (.if_icmp .le 7, 3) := by decide +kernel
theorem dX5_check_16 : decode cX5_check 16 = .ok (.ldc2_w 48, 3) := by decide +kernel
theorem dX5_check_19 : decode cX5_check 19 = .ok (.lreturn, 1) := by decide +kernel
theorem dX5_check_20 : decode cX5_check 20 = .ok (.aload_n 0, 1) := by decide +kernel
theorem dX5_check_21 : decode cX5_check 21 = .ok (.getfield 10, 3) := by decide +kernel
theorem dX5_check_24 : decode cX5_check 24 = .ok (.getfield 24, 3) := by decide +kernel
theorem dX5_check_27 : decode cX5_check 27 = .ok (.iload_n 1, 1) := by decide +kernel
theorem dX5_check_28 : decode cX5_check 28 = .ok (.aaload, 1) := by decide +kernel
theorem dX5_check_29 : decode cX5_check 29 = .ok (.astore_n 3, 1) := by decide +kernel
theorem dX5_check_30 : decode cX5_check 30 = .ok (.iload_n 2, 1) := by decide +kernel
theorem dX5_check_31 : decode cX5_check 31 = .ok (.ifCond .ne 8, 3) := by decide +kernel
theorem dX5_check_34 : decode cX5_check 34 = .ok (.bipush 32, 2) := by decide +kernel
theorem dX5_check_36 : decode cX5_check 36 = .ok (.goto 5, 3) := by decide +kernel
theorem dX5_check_39 : decode cX5_check 39 = .ok (.bipush 16, 2) := by decide +kernel
theorem dX5_check_41 : decode cX5_check 41 = .ok (.aload_n 3, 1) := by decide +kernel
theorem dX5_check_42 : decode cX5_check 42 = .ok (.getfield 50, 3) := by decide +kernel
theorem dX5_check_45 : decode cX5_check 45 = .ok (.iconst 0, 1) := by decide +kernel
theorem dX5_check_46 : decode cX5_check 46 = .ok (.aload_n 3, 1) := by decide +kernel
theorem dX5_check_47 : decode cX5_check 47 = .ok (.getfield 28, 3) := by decide +kernel
theorem dX5_check_50 : decode cX5_check 50 = .ok (.invokestatic 54, 3) := by decide +kernel
theorem dX5_check_53 : decode cX5_check 53 = .ok (.lreturn, 1) := by decide +kernel
theorem dX5_set_0 : decode cX5_set 0 = .ok (.iload_n 1, 1) := by decide +kernel
theorem dX5_set_1 : decode cX5_set 1 = .ok (.tableswitch 98 0 2 #[27, 51, 75], 27) := by decide +kernel
theorem dX5_set_28 : decode cX5_set 28 = .ok (.iload_n 2, 1) := by decide +kernel
theorem dX5_set_29 : decode cX5_set 29 = .ok (.iconst 1, 1) := by decide +kernel
theorem dX5_set_30 : decode cX5_set 30 = .ok (.if_icmp .lt 9, 3) := by decide +kernel
theorem dX5_set_33 : decode cX5_set 33 = .ok (.iload_n 2, 1) := by decide +kernel
theorem dX5_set_34 : decode cX5_set 34 = .ok (.bipush 6, 2) := by decide +kernel
theorem dX5_set_36 : decode cX5_set 36 = .ok (.if_icmp .le 7, 3) := by decide +kernel
theorem dX5_set_39 : decode cX5_set 39 = .ok (.iconst (-1), 1) := by decide +kernel
theorem dX5_set_40 : decode cX5_set 40 = .ok (.goto 11, 3) := by decide +kernel
theorem dX5_set_43 : decode cX5_set 43 = .ok (.aload_n 0, 1) := by decide +kernel
theorem dX5_set_44 : decode cX5_set 44 = .ok (.getfield 10, 3) := by decide +kernel
theorem dX5_set_47 : decode cX5_set 47 = .ok (.iload_n 2, 1) := by decide +kernel
theorem dX5_set_48 : decode cX5_set 48 = .ok (.invokevirtual 58, 3) := by decide +kernel
theorem dX5_set_51 : decode cX5_set 51 = .ok (.ireturn, 1) := by decide +kernel
theorem dX5_set_52 : decode cX5_set 52 = .ok (.iload_n 2, 1) := by decide +kernel
theorem dX5_set_53 : decode cX5_set 53 = .ok (.iconst 1, 1) := by decide +kernel
theorem dX5_set_54 : decode cX5_set 54 = .ok (.if_icmp .lt 9, 3) := by decide +kernel
theorem dX5_set_57 : decode cX5_set 57 = .ok (.iload_n 2, 1) := by decide +kernel
theorem dX5_set_58 : decode cX5_set 58 = .ok (.bipush 60, 2) := by decide +kernel
theorem dX5_set_60 : decode cX5_set 60 = .ok (.if_icmp .le 7, 3) := by decide +kernel
theorem dX5_set_63 : decode cX5_set 63 = .ok (.iconst (-1), 1) := by decide +kernel
theorem dX5_set_64 : decode cX5_set 64 = .ok (.goto 11, 3) := by decide +kernel
theorem dX5_set_67 : decode cX5_set 67 = .ok (.aload_n 0, 1) := by decide +kernel
theorem dX5_set_68 : decode cX5_set 68 = .ok (.getfield 10, 3) := by decide +kernel
theorem dX5_set_71 : decode cX5_set 71 = .ok (.iload_n 2, 1) := by decide +kernel
theorem dX5_set_72 : decode cX5_set 72 = .ok (.invokevirtual 62, 3) := by decide +kernel
theorem dX5_set_75 : decode cX5_set 75 = .ok (.ireturn, 1) := by decide +kernel
theorem dX5_set_76 : decode cX5_set 76 = .ok (.iload_n 2, 1) := by decide +kernel
theorem dX5_set_77 : decode cX5_set 77 = .ok (.ifCond .lt 9, 3) := by decide +kernel
theorem dX5_set_80 : decode cX5_set 80 = .ok (.iload_n 2, 1) := by decide +kernel
theorem dX5_set_81 : decode cX5_set 81 = .ok (.bipush 9, 2) := by decide +kernel
theorem dX5_set_83 : decode cX5_set 83 = .ok (.if_icmp .le 7, 3) := by decide +kernel
theorem dX5_set_86 : decode cX5_set 86 = .ok (.iconst (-1), 1) := by decide +kernel
theorem dX5_set_87 : decode cX5_set 87 = .ok (.goto 11, 3) := by decide +kernel
theorem dX5_set_90 : decode cX5_set 90 = .ok (.aload_n 0, 1) := by decide +kernel
theorem dX5_set_91 : decode cX5_set 91 = .ok (.getfield 10, 3) := by decide +kernel
theorem dX5_set_94 : decode cX5_set 94 = .ok (.iload_n 2, 1) := by decide +kernel
theorem dX5_set_95 : decode cX5_set 95 = .ok (.invokevirtual 65, 3) := by decide +kernel
theorem dX5_set_98 : decode cX5_set 98 = .ok (.ireturn, 1) := by decide +kernel
theorem dX5_set_99 : decode cX5_set 99 = .ok (.iconst (-1), 1) := by decide +kernel
theorem dX5_set_100 : decode cX5_set 100 = .ok (.ireturn, 1) := by decide +kernel
theorem dX5_tick_0 : decode cX5_tick 0 = .ok (.iload_n 1, 1) := by decide +kernel
theorem dX5_tick_1 : decode cX5_tick 1 = .ok (.iconst 1, 1) := by decide +kernel
theorem dX5_tick_2 : decode cX5_tick 2 = .ok (.if_icmp .lt 10, 3) := by decide +kernel
theorem dX5_tick_5 : decode cX5_tick 5 = .ok (.iload_n 1, 1) := by decide +kernel
theorem dX5_tick_6 : decode cX5_tick 6 = .ok (.sipush 200, 3) := by decide +kernel
theorem dX5_tick_9 : decode cX5_tick 9 = .ok (.if_icmp .le 5, 3) := by decide +kernel
theorem dX5_tick_12 : decode cX5_tick 12 = .ok (.iconst (-1), 1) := by decide +kernel
theorem dX5_tick_13 : decode cX5_tick 13 = .ok (.ireturn, 1) := by decide +kernel
theorem dX5_tick_14 : decode cX5_tick 14 = .ok (.aload_n 0, 1) := by decide +kernel
theorem dX5_tick_15 : decode cX5_tick 15 = .ok (.getfield 10, 3) := by decide +kernel
theorem dX5_tick_18 : decode cX5_tick 18 = .ok (.getfield 68, 3) := by decide +kernel
theorem dX5_tick_21 : decode cX5_tick 21 = .ok (.iload_n 1, 1) := by decide +kernel
theorem dX5_tick_22 : decode cX5_tick 22 = .ok (.iadd, 1) := by decide +kernel
theorem dX5_tick_23 : decode cX5_tick 23 = .ok (.sipush 20000, 3) := by decide +kernel
theorem dX5_tick_26 : decode cX5_tick 26 = .ok (.if_icmp .le 6, 3) := by decide +kernel
theorem dX5_tick_29 : decode cX5_tick 29 = .ok (.bipush (-3), 2) := by decide +kernel
theorem dX5_tick_31 : decode cX5_tick 31 = .ok (.ireturn, 1) := by decide +kernel
theorem dX5_tick_32 : decode cX5_tick 32 = .ok (.iconst 0, 1) := by decide +kernel
theorem dX5_tick_33 : decode cX5_tick 33 = .ok (.istore_n 2, 1) := by decide +kernel
theorem dX5_tick_34 : decode cX5_tick 34 = .ok (.iconst 0, 1) := by decide +kernel
theorem dX5_tick_35 : decode cX5_tick 35 = .ok (.istore_n 3, 1) := by decide +kernel
theorem dX5_tick_36 : decode cX5_tick 36 = .ok (.iload_n 3, 1) := by decide +kernel
theorem dX5_tick_37 : decode cX5_tick 37 = .ok (.iload_n 1, 1) := by decide +kernel
theorem dX5_tick_38 : decode cX5_tick 38 = .ok (.if_icmp .ge 19, 3) := by decide +kernel
theorem dX5_tick_41 : decode cX5_tick 41 = .ok (.iload_n 2, 1) := by decide +kernel
theorem dX5_tick_42 : decode cX5_tick 42 = .ok (.aload_n 0, 1) := by decide +kernel
theorem dX5_tick_43 : decode cX5_tick 43 = .ok (.getfield 10, 3) := by decide +kernel
theorem dX5_tick_46 : decode cX5_tick 46 = .ok (.invokevirtual 71, 3) := by decide +kernel
theorem dX5_tick_49 : decode cX5_tick 49 = .ok (.iadd, 1) := by decide +kernel
theorem dX5_tick_50 : decode cX5_tick 50 = .ok (.istore_n 2, 1) := by decide +kernel
theorem dX5_tick_51 : decode cX5_tick 51 = .ok (.iinc 3 1, 3) := by decide +kernel
theorem dX5_tick_54 : decode cX5_tick 54 = .ok (.goto (-18), 3) := by decide +kernel
theorem dX5_tick_57 : decode cX5_tick 57 = .ok (.iload_n 2, 1) := by decide +kernel
theorem dX5_tick_58 : decode cX5_tick 58 = .ok (.ireturn, 1) := by decide +kernel
theorem dX5_settle_0 : decode cX5_settle 0 = .ok (.iload_n 1, 1) := by decide +kernel
theorem dX5_settle_1 : decode cX5_settle 1 = .ok (.iconst 1, 1) := by decide +kernel
theorem dX5_settle_2 : decode cX5_settle 2 = .ok (.if_icmp .lt 10, 3) := by decide +kernel
theorem dX5_settle_5 : decode cX5_settle 5 = .ok (.iload_n 1, 1) := by decide +kernel
theorem dX5_settle_6 : decode cX5_settle 6 = .ok (.sipush 400, 3) := by decide +kernel
theorem dX5_settle_9 : decode cX5_settle 9 = .ok (.if_icmp .le 5, 3) := by decide +kernel
theorem dX5_settle_12 : decode cX5_settle 12 = .ok (.iconst (-1), 1) := by decide +kernel
theorem dX5_settle_13 : decode cX5_settle 13 = .ok (.ireturn, 1) := by decide +kernel
theorem dX5_settle_14 : decode cX5_settle 14 = .ok (.aload_n 0, 1) := by decide +kernel
theorem dX5_settle_15 : decode cX5_settle 15 = .ok (.getfield 10, 3) := by decide +kernel
theorem dX5_settle_18 : decode cX5_settle 18 = .ok (.getfield 68, 3) := by decide +kernel
theorem dX5_settle_21 : decode cX5_settle 21 = .ok (.iload_n 1, 1) := by decide +kernel
theorem dX5_settle_22 : decode cX5_settle 22 = .ok (.iadd, 1) := by decide +kernel
theorem dX5_settle_23 : decode cX5_settle 23 = .ok (.sipush 20000, 3) := by decide +kernel
theorem dX5_settle_26 : decode cX5_settle 26 = .ok (.if_icmp .le 6, 3) := by decide +kernel
theorem dX5_settle_29 : decode cX5_settle 29 = .ok (.bipush (-3), 2) := by decide +kernel
theorem dX5_settle_31 : decode cX5_settle 31 = .ok (.ireturn, 1) := by decide +kernel
theorem dX5_settle_32 : decode cX5_settle 32 = .ok (.iconst 0, 1) := by decide +kernel
theorem dX5_settle_33 : decode cX5_settle 33 = .ok (.istore_n 2, 1) := by decide +kernel
theorem dX5_settle_34 : decode cX5_settle 34 = .ok (.iload_n 2, 1) := by decide +kernel
theorem dX5_settle_35 : decode cX5_settle 35 = .ok (.iload_n 1, 1) := by decide +kernel
theorem dX5_settle_36 : decode cX5_settle 36 = .ok (.if_icmp .ge 29, 3) := by decide +kernel
theorem dX5_settle_39 : decode cX5_settle 39 = .ok (.aload_n 0, 1) := by decide +kernel
theorem dX5_settle_40 : decode cX5_settle 40 = .ok (.getfield 10, 3) := by decide +kernel
theorem dX5_settle_43 : decode cX5_settle 43 = .ok (.invokevirtual 74, 3) := by decide +kernel
theorem dX5_settle_46 : decode cX5_settle 46 = .ok (.ifCond .eq 5, 3) := by decide +kernel
theorem dX5_settle_49 : decode cX5_settle 49 = .ok (.iload_n 2, 1) := by decide +kernel
theorem dX5_settle_50 : decode cX5_settle 50 = .ok (.ireturn, 1) := by decide +kernel
theorem dX5_settle_51 : decode cX5_settle 51 = .ok (.aload_n 0, 1) := by decide +kernel
theorem dX5_settle_52 : decode cX5_settle 52 = .ok (.getfield 10, 3) := by decide +kernel
theorem dX5_settle_55 : decode cX5_settle 55 = .ok (.invokevirtual 71, 3) := by decide +kernel
theorem dX5_settle_58 : decode cX5_settle 58 = .ok (.pop, 1) := by decide +kernel
theorem dX5_settle_59 : decode cX5_settle 59 = .ok (.iinc 2 1, 3) := by decide +kernel
theorem dX5_settle_62 : decode cX5_settle 62 = .ok (.goto (-28), 3) := by decide +kernel
theorem dX5_settle_65 : decode cX5_settle 65 = .ok (.iload_n 1, 1) := by decide +kernel
theorem dX5_settle_66 : decode cX5_settle 66 = .ok (.ireturn, 1) := by decide +kernel
theorem dX5_voids_0 : decode cX5_voids 0 = .ok (.iload_n 1, 1) := by decide +kernel
theorem dX5_voids_1 : decode cX5_voids 1 = .ok (.invokestatic 20, 3) := by decide +kernel
theorem dX5_voids_4 : decode cX5_voids 4 = .ok (.ifCond .eq 5, 3) := by decide +kernel
theorem dX5_voids_7 : decode cX5_voids 7 = .ok (.iconst (-1), 1) := by decide +kernel
theorem dX5_voids_8 : decode cX5_voids 8 = .ok (.ireturn, 1) := by decide +kernel
theorem dX5_voids_9 : decode cX5_voids 9 = .ok (.aload_n 0, 1) := by decide +kernel
theorem dX5_voids_10 : decode cX5_voids 10 = .ok (.getfield 10, 3) := by decide +kernel
theorem dX5_voids_13 : decode cX5_voids 13 = .ok (.getfield 24, 3) := by decide +kernel
theorem dX5_voids_16 : decode cX5_voids 16 = .ok (.iload_n 1, 1) := by decide +kernel
theorem dX5_voids_17 : decode cX5_voids 17 = .ok (.aaload, 1) := by decide +kernel
theorem dX5_voids_18 : decode cX5_voids 18 = .ok (.astore_n 2, 1) := by decide +kernel
theorem dX5_voids_19 : decode cX5_voids 19 = .ok (.aload_n 2, 1) := by decide +kernel
theorem dX5_voids_20 : decode cX5_voids 20 = .ok (.getfield 78, 3) := by decide +kernel
theorem dX5_voids_23 : decode cX5_voids 23 = .ok (.invokestatic 82, 3) := by decide +kernel
theorem dX5_voids_26 : decode cX5_voids 26 = .ok (.istore_n 3, 1) := by decide +kernel
theorem dX5_voids_27 : decode cX5_voids 27 = .ok (.aload_n 2, 1) := by decide +kernel
theorem dX5_voids_28 : decode cX5_voids 28 = .ok (.iconst 1, 1) := by decide +kernel
theorem dX5_voids_29 : decode cX5_voids 29 = .ok (.putfield 78, 3) := by decide +kernel
theorem dX5_voids_32 : decode cX5_voids 32 = .ok (.iload_n 3, 1) := by decide +kernel
theorem dX5_voids_33 : decode cX5_voids 33 = .ok (.ireturn, 1) := by decide +kernel
theorem dX5_bend_0 : decode cX5_bend 0 = .ok (.aload_n 0, 1) := by decide +kernel
theorem dX5_bend_1 : decode cX5_bend 1 = .ok (.iload_n 1, 1) := by decide +kernel
theorem dX5_bend_2 : decode cX5_bend 2 = .ok (.iload_n 2, 1) := by decide +kernel
theorem dX5_bend_3 : decode cX5_bend 3 = .ok (.invokevirtual 86, 3) := by decide +kernel
theorem dX5_bend_6 : decode cX5_bend 6 = .ok (.ifCond .ne 17, 3) := by decide +kernel
theorem dX5_bend_9 : decode cX5_bend 9 = .ok (.iload 4, 2) := by decide +kernel
theorem dX5_bend_11 : decode cX5_bend 11 = .ok (.iconst 1, 1) := by decide +kernel
theorem dX5_bend_12 : decode cX5_bend 12 = .ok (.if_icmp .lt 11, 3) := by decide +kernel
theorem dX5_bend_15 : decode cX5_bend 15 = .ok (.iload 4, 2) := by decide +kernel
theorem dX5_bend_17 : decode cX5_bend 17 = .ok (.sipush 255, 3) := by decide +kernel
theorem dX5_bend_20 : decode cX5_bend 20 = .ok (.if_icmp .le 5, 3) := by decide +kernel
theorem dX5_bend_23 : decode cX5_bend 23 = .ok (.iconst (-1), 1) := by decide +kernel
theorem dX5_bend_24 : decode cX5_bend 24 = .ok (.ireturn, 1) := by decide +kernel
theorem dX5_bend_25 : decode cX5_bend 25 = .ok (.aload_n 0, 1) := by decide +kernel
theorem dX5_bend_26 : decode cX5_bend 26 = .ok (.getfield 10, 3) := by decide +kernel
theorem dX5_bend_29 : decode cX5_bend 29 = .ok (.getfield 90, 3) := by decide +kernel
theorem dX5_bend_32 : decode cX5_bend 32 = .ok (.iload_n 1, 1) := by decide +kernel
theorem dX5_bend_33 : decode cX5_bend 33 = .ok (.aaload, 1) := by decide +kernel
theorem dX5_bend_34 : decode cX5_bend 34 = .ok (.getfield 94, 3) := by decide +kernel
theorem dX5_bend_37 : decode cX5_bend 37 = .ok (.iload_n 2, 1) := by decide +kernel
theorem dX5_bend_38 : decode cX5_bend 38 = .ok (.aaload, 1) := by decide +kernel
theorem dX5_bend_39 : decode cX5_bend 39 = .ok (.astore 5, 2) := by decide +kernel
theorem dX5_bend_41 : decode cX5_bend 41 = .ok (.iload_n 3, 1) := by decide +kernel
theorem dX5_bend_42 : decode cX5_bend 42 = .ok (.ifCond .lt 12, 3) := by decide +kernel
theorem dX5_bend_45 : decode cX5_bend 45 = .ok (.iload_n 3, 1) := by decide +kernel
theorem dX5_bend_46 : decode cX5_bend 46 = .ok (.aload 5, 2) := by decide +kernel
theorem dX5_bend_48 : decode cX5_bend 48 = .ok (.getfield 100, 3) := by decide +kernel
theorem dX5_bend_51 : decode cX5_bend 51 = .ok (.if_icmp .lt 5, 3) := by decide +kernel
theorem dX5_bend_54 : decode cX5_bend 54 = .ok (.iconst (-1), 1) := by decide +kernel
theorem dX5_bend_55 : decode cX5_bend 55 = .ok (.ireturn, 1) := by decide +kernel
theorem dX5_bend_56 : decode cX5_bend 56 = .ok (.aload 5, 2) := by decide +kernel
theorem dX5_bend_58 : decode cX5_bend 58 = .ok (.getfield 105, 3) := by decide +kernel
theorem dX5_bend_61 : decode cX5_bend 61 = .ok (.iload_n 3, 1) := by decide +kernel
theorem dX5_bend_62 : decode cX5_bend 62 = .ok (.dup2, 1) := by decide +kernel
theorem dX5_bend_63 : decode cX5_bend 63 = .ok (.iaload, 1) := by decide +kernel
theorem dX5_bend_64 : decode cX5_bend 64 = .ok (.iload 4, 2) := by decide +kernel
theorem dX5_bend_66 : decode cX5_bend 66 = .ok (.ixor, 1) := by decide +kernel
theorem dX5_bend_67 : decode cX5_bend 67 = .ok (.iastore, 1) := by decide +kernel
theorem dX5_bend_68 : decode cX5_bend 68 = .ok (.aload 5, 2) := by decide +kernel
theorem dX5_bend_70 : decode cX5_bend 70 = .ok (.getfield 105, 3) := by decide +kernel
theorem dX5_bend_73 : decode cX5_bend 73 = .ok (.iload_n 3, 1) := by decide +kernel
theorem dX5_bend_74 : decode cX5_bend 74 = .ok (.iaload, 1) := by decide +kernel
theorem dX5_bend_75 : decode cX5_bend 75 = .ok (.ireturn, 1) := by decide +kernel
theorem dX5_lose_0 : decode cX5_lose 0 = .ok (.aload_n 0, 1) := by decide +kernel
theorem dX5_lose_1 : decode cX5_lose 1 = .ok (.iload_n 1, 1) := by decide +kernel
theorem dX5_lose_2 : decode cX5_lose 2 = .ok (.iload_n 2, 1) := by decide +kernel
theorem dX5_lose_3 : decode cX5_lose 3 = .ok (.invokevirtual 86, 3) := by decide +kernel
theorem dX5_lose_6 : decode cX5_lose 6 = .ok (.ifCond .eq 5, 3) := by decide +kernel
theorem dX5_lose_9 : decode cX5_lose 9 = .ok (.iconst (-1), 1) := by decide +kernel
theorem dX5_lose_10 : decode cX5_lose 10 = .ok (.ireturn, 1) := by decide +kernel
theorem dX5_lose_11 : decode cX5_lose 11 = .ok (.aload_n 0, 1) := by decide +kernel
theorem dX5_lose_12 : decode cX5_lose 12 = .ok (.getfield 10, 3) := by decide +kernel
theorem dX5_lose_15 : decode cX5_lose 15 = .ok (.getfield 90, 3) := by decide +kernel
theorem dX5_lose_18 : decode cX5_lose 18 = .ok (.iload_n 1, 1) := by decide +kernel
theorem dX5_lose_19 : decode cX5_lose 19 = .ok (.aaload, 1) := by decide +kernel
theorem dX5_lose_20 : decode cX5_lose 20 = .ok (.astore_n 3, 1) := by decide +kernel
theorem dX5_lose_21 : decode cX5_lose 21 = .ok (.aload_n 3, 1) := by decide +kernel
theorem dX5_lose_22 : decode cX5_lose 22 = .ok (.iload_n 2, 1) := by decide +kernel
theorem dX5_lose_23 : decode cX5_lose 23 = .ok (.invokevirtual 108, 3) := by decide +kernel
theorem dX5_lose_26 : decode cX5_lose 26 = .ok (.pop, 1) := by decide +kernel
theorem dX5_lose_27 : decode cX5_lose 27 = .ok (.aload_n 3, 1) := by decide +kernel
theorem dX5_lose_28 : decode cX5_lose 28 = .ok (.getfield 112, 3) := by decide +kernel
theorem dX5_lose_31 : decode cX5_lose 31 = .ok (.ireturn, 1) := by decide +kernel
theorem dX5_twice_0 : decode cX5_twice 0 = .ok (.aload_n 0, 1) := by decide +kernel
theorem dX5_twice_1 : decode cX5_twice 1 = .ok (.iload_n 1, 1) := by decide +kernel
theorem dX5_twice_2 : decode cX5_twice 2 = .ok (.iload_n 2, 1) := by decide +kernel
theorem dX5_twice_3 : decode cX5_twice 3 = .ok (.invokevirtual 86, 3) := by decide +kernel
theorem dX5_twice_6 : decode cX5_twice 6 = .ok (.ifCond .eq 5, 3) := by decide +kernel
theorem dX5_twice_9 : decode cX5_twice 9 = .ok (.iconst (-1), 1) := by decide +kernel
theorem dX5_twice_10 : decode cX5_twice 10 = .ok (.ireturn, 1) := by decide +kernel
theorem dX5_twice_11 : decode cX5_twice 11 = .ok (.aload_n 0, 1) := by decide +kernel
theorem dX5_twice_12 : decode cX5_twice 12 = .ok (.getfield 10, 3) := by decide +kernel
theorem dX5_twice_15 : decode cX5_twice 15 = .ok (.getfield 90, 3) := by decide +kernel
theorem dX5_twice_18 : decode cX5_twice 18 = .ok (.iload_n 1, 1) := by decide +kernel
theorem dX5_twice_19 : decode cX5_twice 19 = .ok (.aaload, 1) := by decide +kernel
theorem dX5_twice_20 : decode cX5_twice 20 = .ok (.astore_n 3, 1) := by decide +kernel
theorem dX5_twice_21 : decode cX5_twice 21 = .ok (.aload_n 3, 1) := by decide +kernel
theorem dX5_twice_22 : decode cX5_twice 22 = .ok (.getfield 112, 3) := by decide +kernel
theorem dX5_twice_25 : decode cX5_twice 25 = .ok (.bipush 12, 2) := by decide +kernel
theorem dX5_twice_27 : decode cX5_twice 27 = .ok (.if_icmp .lt 6, 3) := by decide +kernel
theorem dX5_twice_30 : decode cX5_twice 30 = .ok (.bipush (-3), 2) := by decide +kernel
theorem dX5_twice_32 : decode cX5_twice 32 = .ok (.ireturn, 1) := by decide +kernel
theorem dX5_twice_33 : decode cX5_twice 33 = .ok (.aload_n 3, 1) := by decide +kernel
theorem dX5_twice_34 : decode cX5_twice 34 = .ok (.iload_n 2, 1) := by decide +kernel
theorem dX5_twice_35 : decode cX5_twice 35 = .ok (.invokevirtual 115, 3) := by decide +kernel
theorem dX5_twice_38 : decode cX5_twice 38 = .ok (.aload_n 3, 1) := by decide +kernel
theorem dX5_twice_39 : decode cX5_twice 39 = .ok (.getfield 112, 3) := by decide +kernel
theorem dX5_twice_42 : decode cX5_twice 42 = .ok (.ireturn, 1) := by decide +kernel
theorem dX5_wire_0 : decode cX5_wire 0 = .ok (.iload_n 1, 1) := by decide +kernel
theorem dX5_wire_1 : decode cX5_wire 1 = .ok (.invokestatic 20, 3) := by decide +kernel
theorem dX5_wire_4 : decode cX5_wire 4 = .ok (.ifCond .eq 5, 3) := by decide +kernel
theorem dX5_wire_7 : decode cX5_wire 7 = .ok (.iconst (-1), 1) := by decide +kernel
theorem dX5_wire_8 : decode cX5_wire 8 = .ok (.ireturn, 1) := by decide +kernel
theorem dX5_wire_9 : decode cX5_wire 9 = .ok (.iload_n 2, 1) := by decide +kernel
theorem dX5_wire_10 : decode cX5_wire 10 = .ok (.iconst (-1), 1) := by decide +kernel
theorem dX5_wire_11 : decode cX5_wire 11 = .ok (.if_icmp .ne 16, 3) := by decide +kernel
theorem dX5_wire_14 : decode cX5_wire 14 = .ok (.aload_n 0, 1) := by decide +kernel
theorem dX5_wire_15 : decode cX5_wire 15 = .ok (.getfield 10, 3) := by decide +kernel
theorem dX5_wire_18 : decode cX5_wire 18 = .ok (.getfield 90, 3) := by decide +kernel
theorem dX5_wire_21 : decode cX5_wire 21 = .ok (.iload_n 1, 1) := by decide +kernel
theorem dX5_wire_22 : decode cX5_wire 22 = .ok (.aaload, 1) := by decide +kernel
theorem dX5_wire_23 : decode cX5_wire 23 = .ok (.getfield 112, 3) := by decide +kernel
theorem dX5_wire_26 : decode cX5_wire 26 = .ok (.ireturn, 1) := by decide +kernel
theorem dX5_wire_27 : decode cX5_wire 27 = .ok (.aload_n 0, 1) := by decide +kernel
theorem dX5_wire_28 : decode cX5_wire 28 = .ok (.iload_n 1, 1) := by decide +kernel
theorem dX5_wire_29 : decode cX5_wire 29 = .ok (.iload_n 2, 1) := by decide +kernel
theorem dX5_wire_30 : decode cX5_wire 30 = .ok (.invokevirtual 86, 3) := by decide +kernel
theorem dX5_wire_33 : decode cX5_wire 33 = .ok (.ifCond .ne 13, 3) := by decide +kernel
theorem dX5_wire_36 : decode cX5_wire 36 = .ok (.iload_n 3, 1) := by decide +kernel
theorem dX5_wire_37 : decode cX5_wire 37 = .ok (.ifCond .lt 9, 3) := by decide +kernel
theorem dX5_wire_40 : decode cX5_wire 40 = .ok (.iload_n 3, 1) := by decide +kernel
theorem dX5_wire_41 : decode cX5_wire 41 = .ok (.bipush 35, 2) := by decide +kernel
theorem dX5_wire_43 : decode cX5_wire 43 = .ok (.if_icmp .le 5, 3) := by decide +kernel
theorem dX5_wire_46 : decode cX5_wire 46 = .ok (.iconst (-1), 1) := by decide +kernel
theorem dX5_wire_47 : decode cX5_wire 47 = .ok (.ireturn, 1) := by decide +kernel
theorem dX5_wire_48 : decode cX5_wire 48 = .ok (.aload_n 0, 1) := by decide +kernel
theorem dX5_wire_49 : decode cX5_wire 49 = .ok (.getfield 10, 3) := by decide +kernel
theorem dX5_wire_52 : decode cX5_wire 52 = .ok (.getfield 90, 3) := by decide +kernel
theorem dX5_wire_55 : decode cX5_wire 55 = .ok (.iload_n 1, 1) := by decide +kernel
theorem dX5_wire_56 : decode cX5_wire 56 = .ok (.aaload, 1) := by decide +kernel
theorem dX5_wire_57 : decode cX5_wire 57 = .ok (.getfield 94, 3) := by decide +kernel
theorem dX5_wire_60 : decode cX5_wire 60 = .ok (.iload_n 2, 1) := by decide +kernel
theorem dX5_wire_61 : decode cX5_wire 61 = .ok (.aaload, 1) := by decide +kernel
theorem dX5_wire_62 : decode cX5_wire 62 = .ok (.astore 4, 2) := by decide +kernel
theorem dX5_wire_64 : decode cX5_wire 64 = .ok (.iload_n 3, 1) := by decide +kernel
theorem dX5_wire_65 : decode cX5_wire 65 = .ok (.tableswitch 53 0 2 #[27, 33, 47], 27) := by decide +kernel
theorem dX5_wire_92 : decode cX5_wire 92 = .ok (.aload 4, 2) := by decide +kernel
theorem dX5_wire_94 : decode cX5_wire 94 = .ok (.getfield 100, 3) := by decide +kernel
theorem dX5_wire_97 : decode cX5_wire 97 = .ok (.ireturn, 1) := by decide +kernel
theorem dX5_wire_98 : decode cX5_wire 98 = .ok (.aload 4, 2) := by decide +kernel
theorem dX5_wire_100 : decode cX5_wire 100 = .ok (.getfield 119, 3) := by decide +kernel
theorem dX5_wire_103 : decode cX5_wire 103 = .ok (.aload_n 0, 1) := by decide +kernel
theorem dX5_wire_104 : decode cX5_wire 104 = .ok (.getfield 10, 3) := by decide +kernel
theorem dX5_wire_107 : decode cX5_wire 107 = .ok (.getfield 68, 3) := by decide +kernel
theorem dX5_wire_110 : decode cX5_wire 110 = .ok (.isub, 1) := by decide +kernel
theorem dX5_wire_111 : decode cX5_wire 111 = .ok (.ireturn, 1) := by decide +kernel
theorem dX5_wire_112 : decode cX5_wire 112 = .ok (.aload 4, 2) := by decide +kernel
theorem dX5_wire_114 : decode cX5_wire 114 = .ok (.invokevirtual 122, 3) := by decide +kernel
theorem dX5_wire_117 : decode cX5_wire 117 = .ok (.ireturn, 1) := by decide +kernel
theorem dX5_wire_118 : decode cX5_wire 118 = .ok (.iload_n 3, 1) := by decide +kernel
theorem dX5_wire_119 : decode cX5_wire 119 = .ok (.iconst 3, 1) := by decide +kernel
theorem dX5_wire_120 : decode cX5_wire 120 = .ok (.isub, 1) := by decide +kernel
theorem dX5_wire_121 : decode cX5_wire 121 = .ok (.aload 4, 2) := by decide +kernel
theorem dX5_wire_123 : decode cX5_wire 123 = .ok (.getfield 100, 3) := by decide +kernel
theorem dX5_wire_126 : decode cX5_wire 126 = .ok (.if_icmp .ge 15, 3) := by decide +kernel
theorem dX5_wire_129 : decode cX5_wire 129 = .ok (.aload 4, 2) := by decide +kernel
theorem dX5_wire_131 : decode cX5_wire 131 = .ok (.getfield 105, 3) := by decide +kernel
theorem dX5_wire_134 : decode cX5_wire 134 = .ok (.iload_n 3, 1) := by decide +kernel
theorem dX5_wire_135 : decode cX5_wire 135 = .ok (.iconst 3, 1) := by decide +kernel
theorem dX5_wire_136 : decode cX5_wire 136 = .ok (.isub, 1) := by decide +kernel
theorem dX5_wire_137 : decode cX5_wire 137 = .ok (.iaload, 1) := by decide +kernel
theorem dX5_wire_138 : decode cX5_wire 138 = .ok (.goto 5, 3) := by decide +kernel
theorem dX5_wire_141 : decode cX5_wire 141 = .ok (.bipush (-4), 2) := by decide +kernel
theorem dX5_wire_143 : decode cX5_wire 143 = .ok (.ireturn, 1) := by decide +kernel
theorem dX5_end_0 : decode cX5_end 0 = .ok (.iload_n 1, 1) := by decide +kernel
theorem dX5_end_1 : decode cX5_end 1 = .ok (.invokestatic 20, 3) := by decide +kernel
theorem dX5_end_4 : decode cX5_end 4 = .ok (.ifCond .eq 5, 3) := by decide +kernel
theorem dX5_end_7 : decode cX5_end 7 = .ok (.iconst (-1), 1) := by decide +kernel
theorem dX5_end_8 : decode cX5_end 8 = .ok (.ireturn, 1) := by decide +kernel
theorem dX5_end_9 : decode cX5_end 9 = .ok (.aload_n 0, 1) := by decide +kernel
theorem dX5_end_10 : decode cX5_end 10 = .ok (.getfield 10, 3) := by decide +kernel
theorem dX5_end_13 : decode cX5_end 13 = .ok (.getfield 24, 3) := by decide +kernel
theorem dX5_end_16 : decode cX5_end 16 = .ok (.iload_n 1, 1) := by decide +kernel
theorem dX5_end_17 : decode cX5_end 17 = .ok (.aaload, 1) := by decide +kernel
theorem dX5_end_18 : decode cX5_end 18 = .ok (.iload_n 2, 1) := by decide +kernel
theorem dX5_end_19 : decode cX5_end 19 = .ok (.invokevirtual 125, 3) := by decide +kernel
theorem dX5_end_22 : decode cX5_end 22 = .ok (.ireturn, 1) := by decide +kernel
theorem dX5_up_0 : decode cX5_up 0 = .ok (.iload_n 1, 1) := by decide +kernel
theorem dX5_up_1 : decode cX5_up 1 = .ok (.invokestatic 20, 3) := by decide +kernel
theorem dX5_up_4 : decode cX5_up 4 = .ok (.ifCond .ne 7, 3) := by decide +kernel
theorem dX5_up_7 : decode cX5_up 7 = .ok (.iload_n 2, 1) := by decide +kernel
theorem dX5_up_8 : decode cX5_up 8 = .ok (.ifCond .ge 5, 3) := by decide +kernel
theorem dX5_up_11 : decode cX5_up 11 = .ok (.iconst (-1), 1) := by decide +kernel
theorem dX5_up_12 : decode cX5_up 12 = .ok (.ireturn, 1) := by decide +kernel
theorem dX5_up_13 : decode cX5_up 13 = .ok (.aload_n 0, 1) := by decide +kernel
theorem dX5_up_14 : decode cX5_up 14 = .ok (.getfield 10, 3) := by decide +kernel
theorem dX5_up_17 : decode cX5_up 17 = .ok (.getfield 24, 3) := by decide +kernel
theorem dX5_up_20 : decode cX5_up 20 = .ok (.iload_n 1, 1) := by decide +kernel
theorem dX5_up_21 : decode cX5_up 21 = .ok (.aaload, 1) := by decide +kernel
theorem dX5_up_22 : decode cX5_up 22 = .ok (.astore_n 3, 1) := by decide +kernel
theorem dX5_up_23 : decode cX5_up 23 = .ok (.iload_n 2, 1) := by decide +kernel
theorem dX5_up_24 : decode cX5_up 24 = .ok (.aload_n 3, 1) := by decide +kernel
theorem dX5_up_25 : decode cX5_up 25 = .ok (.invokevirtual 128, 3) := by decide +kernel
theorem dX5_up_28 : decode cX5_up 28 = .ok (.if_icmp .ge 15, 3) := by decide +kernel
theorem dX5_up_31 : decode cX5_up 31 = .ok (.aload_n 3, 1) := by decide +kernel
theorem dX5_up_32 : decode cX5_up 32 = .ok (.getfield 131, 3) := by decide +kernel
theorem dX5_up_35 : decode cX5_up 35 = .ok (.getfield 135, 3) := by decide +kernel
theorem dX5_up_38 : decode cX5_up 38 = .ok (.iload_n 2, 1) := by decide +kernel
theorem dX5_up_39 : decode cX5_up 39 = .ok (.iaload, 1) := by decide +kernel
theorem dX5_up_40 : decode cX5_up 40 = .ok (.goto 5, 3) := by decide +kernel
theorem dX5_up_43 : decode cX5_up 43 = .ok (.bipush (-4), 2) := by decide +kernel
theorem dX5_up_45 : decode cX5_up 45 = .ok (.ireturn, 1) := by decide +kernel
theorem dX5_upByte_0 : decode cX5_upByte 0 = .ok (.iload_n 1, 1) := by decide +kernel
theorem dX5_upByte_1 : decode cX5_upByte 1 = .ok (.invokestatic 20, 3) := by decide +kernel
theorem dX5_upByte_4 : decode cX5_upByte 4 = .ok (.ifCond .ne 11, 3) := by decide +kernel
theorem dX5_upByte_7 : decode cX5_upByte 7 = .ok (.iload_n 2, 1) := by decide +kernel
theorem dX5_upByte_8 : decode cX5_upByte 8 = .ok (.ifCond .lt 7, 3) := by decide +kernel
theorem dX5_upByte_11 : decode cX5_upByte 11 = .ok (.iload_n 3, 1) := by decide +kernel
theorem dX5_upByte_12 : decode cX5_upByte 12 = .ok (.ifCond .ge 5, 3) := by decide +kernel
theorem dX5_upByte_15 : decode cX5_upByte 15 = .ok (.iconst (-1), 1) := by decide +kernel
theorem dX5_upByte_16 : decode cX5_upByte 16 = .ok (.ireturn, 1) := by decide +kernel
theorem dX5_upByte_17 : decode cX5_upByte 17 = .ok (.aload_n 0, 1) := by decide +kernel
theorem dX5_upByte_18 : decode cX5_upByte 18 = .ok (.getfield 10, 3) := by decide +kernel
theorem dX5_upByte_21 : decode cX5_upByte 21 = .ok (.getfield 24, 3) := by decide +kernel
theorem dX5_upByte_24 : decode cX5_upByte 24 = .ok (.iload_n 1, 1) := by decide +kernel
theorem dX5_upByte_25 : decode cX5_upByte 25 = .ok (.aaload, 1) := by decide +kernel
theorem dX5_upByte_26 : decode cX5_upByte 26 = .ok (.astore 4, 2) := by decide +kernel
theorem dX5_upByte_28 : decode cX5_upByte 28 = .ok (.iload_n 2, 1) := by decide +kernel
theorem dX5_upByte_29 : decode cX5_upByte 29 = .ok (.aload 4, 2) := by decide +kernel
theorem dX5_upByte_31 : decode cX5_upByte 31 = .ok (.invokevirtual 128, 3) := by decide +kernel
theorem dX5_upByte_34 : decode cX5_upByte 34 = .ok (.if_icmp .ge 17, 3) := by decide +kernel
theorem dX5_upByte_37 : decode cX5_upByte 37 = .ok (.iload_n 3, 1) := by decide +kernel
theorem dX5_upByte_38 : decode cX5_upByte 38 = .ok (.aload 4, 2) := by decide +kernel
theorem dX5_upByte_40 : decode cX5_upByte 40 = .ok (.getfield 131, 3) := by decide +kernel
theorem dX5_upByte_43 : decode cX5_upByte 43 = .ok (.getfield 135, 3) := by decide +kernel
theorem dX5_upByte_46 : decode cX5_upByte 46 = .ok (.iload_n 2, 1) := by decide +kernel
theorem dX5_upByte_47 : decode cX5_upByte 47 = .ok (.iaload, 1) := by decide +kernel
theorem dX5_upByte_48 : decode cX5_upByte 48 = .ok (.if_icmp .lt 6, 3) := by decide +kernel
theorem dX5_upByte_51 : decode cX5_upByte 51 = .ok (.bipush (-4), 2) := by decide +kernel
theorem dX5_upByte_53 : decode cX5_upByte 53 = .ok (.ireturn, 1) := by decide +kernel
theorem dX5_upByte_54 : decode cX5_upByte 54 = .ok (.aload 4, 2) := by decide +kernel
theorem dX5_upByte_56 : decode cX5_upByte 56 = .ok (.getfield 131, 3) := by decide +kernel
theorem dX5_upByte_59 : decode cX5_upByte 59 = .ok (.iload_n 2, 1) := by decide +kernel
theorem dX5_upByte_60 : decode cX5_upByte 60 = .ok (.iload_n 3, 1) := by decide +kernel
theorem dX5_upByte_61 : decode cX5_upByte 61 = .ok (.invokevirtual 140, 3) := by decide +kernel
theorem dX5_upByte_64 : decode cX5_upByte 64 = .ok (.ireturn, 1) := by decide +kernel
theorem dX5_count_0 : decode cX5_count 0 = .ok (.iload_n 1, 1) := by decide +kernel
theorem dX5_count_1 : decode cX5_count 1 = .ok (.ifCond .lt 9, 3) := by decide +kernel
theorem dX5_count_4 : decode cX5_count 4 = .ok (.iload_n 1, 1) := by decide +kernel
theorem dX5_count_5 : decode cX5_count 5 = .ok (.bipush 17, 2) := by decide +kernel
theorem dX5_count_7 : decode cX5_count 7 = .ok (.if_icmp .le 5, 3) := by decide +kernel
theorem dX5_count_10 : decode cX5_count 10 = .ok (.iconst (-1), 1) := by decide +kernel
theorem dX5_count_11 : decode cX5_count 11 = .ok (.ireturn, 1) := by decide +kernel
theorem dX5_count_12 : decode cX5_count 12 = .ok (.iload_n 1, 1) := by decide +kernel
theorem dX5_count_13 : decode cX5_count 13 = .ok (.lookupswitch 62 #[(0, 35), (1, 43), (17, 51)], 35) := by decide +kernel
theorem dX5_count_48 : decode cX5_count 48 = .ok (.aload_n 0, 1) := by decide +kernel
theorem dX5_count_49 : decode cX5_count 49 = .ok (.getfield 10, 3) := by decide +kernel
theorem dX5_count_52 : decode cX5_count 52 = .ok (.getfield 68, 3) := by decide +kernel
theorem dX5_count_55 : decode cX5_count 55 = .ok (.ireturn, 1) := by decide +kernel
theorem dX5_count_56 : decode cX5_count 56 = .ok (.aload_n 0, 1) := by decide +kernel
theorem dX5_count_57 : decode cX5_count 57 = .ok (.getfield 10, 3) := by decide +kernel
theorem dX5_count_60 : decode cX5_count 60 = .ok (.getfield 144, 3) := by decide +kernel
theorem dX5_count_63 : decode cX5_count 63 = .ok (.ireturn, 1) := by decide +kernel
theorem dX5_count_64 : decode cX5_count 64 = .ok (.aload_n 0, 1) := by decide +kernel
theorem dX5_count_65 : decode cX5_count 65 = .ok (.getfield 10, 3) := by decide +kernel
theorem dX5_count_68 : decode cX5_count 68 = .ok (.invokevirtual 74, 3) := by decide +kernel
theorem dX5_count_71 : decode cX5_count 71 = .ok (.invokestatic 82, 3) := by decide +kernel
theorem dX5_count_74 : decode cX5_count 74 = .ok (.ireturn, 1) := by decide +kernel
theorem dX5_count_75 : decode cX5_count 75 = .ok (.aload_n 0, 1) := by decide +kernel
theorem dX5_count_76 : decode cX5_count 76 = .ok (.getfield 10, 3) := by decide +kernel
theorem dX5_count_79 : decode cX5_count 79 = .ok (.getfield 147, 3) := by decide +kernel
theorem dX5_count_82 : decode cX5_count 82 = .ok (.iload_n 1, 1) := by decide +kernel
theorem dX5_count_83 : decode cX5_count 83 = .ok (.iaload, 1) := by decide +kernel
theorem dX5_count_84 : decode cX5_count 84 = .ok (.ireturn, 1) := by decide +kernel
theorem dX5_keep_0 : decode cX5_keep 0 = .ok (.aload_n 0, 1) := by decide +kernel
theorem dX5_keep_1 : decode cX5_keep 1 = .ok (.iload_n 1, 1) := by decide +kernel
theorem dX5_keep_2 : decode cX5_keep 2 = .ok (.invokevirtual 150, 3) := by decide +kernel
theorem dX5_keep_5 : decode cX5_keep 5 = .ok (.ifCond .eq 5, 3) := by decide +kernel
theorem dX5_keep_8 : decode cX5_keep 8 = .ok (.iconst (-1), 1) := by decide +kernel
theorem dX5_keep_9 : decode cX5_keep 9 = .ok (.ireturn, 1) := by decide +kernel
theorem dX5_keep_10 : decode cX5_keep 10 = .ok (.aload_n 0, 1) := by decide +kernel
theorem dX5_keep_11 : decode cX5_keep 11 = .ok (.getfield 16, 3) := by decide +kernel
theorem dX5_keep_14 : decode cX5_keep 14 = .ok (.iload_n 1, 1) := by decide +kernel
theorem dX5_keep_15 : decode cX5_keep 15 = .ok (.aaload, 1) := by decide +kernel
theorem dX5_keep_16 : decode cX5_keep 16 = .ok (.ifnull 7, 3) := by decide +kernel
theorem dX5_keep_19 : decode cX5_keep 19 = .ok (.iconst 1, 1) := by decide +kernel
theorem dX5_keep_20 : decode cX5_keep 20 = .ok (.goto 4, 3) := by decide +kernel
theorem dX5_keep_23 : decode cX5_keep 23 = .ok (.iconst 0, 1) := by decide +kernel
theorem dX5_keep_24 : decode cX5_keep 24 = .ok (.istore_n 2, 1) := by decide +kernel
theorem dX5_keep_25 : decode cX5_keep 25 = .ok (.iload_n 2, 1) := by decide +kernel
theorem dX5_keep_26 : decode cX5_keep 26 = .ok (.ifCond .ne 16, 3) := by decide +kernel
theorem dX5_keep_29 : decode cX5_keep 29 = .ok (.aload_n 0, 1) := by decide +kernel
theorem dX5_keep_30 : decode cX5_keep 30 = .ok (.getfield 16, 3) := by decide +kernel
theorem dX5_keep_33 : decode cX5_keep 33 = .ok (.iload_n 1, 1) := by decide +kernel
theorem dX5_keep_34 : decode cX5_keep 34 = .ok (.new 7, 3) := by decide +kernel
theorem dX5_keep_37 : decode cX5_keep 37 = .ok (.dup, 1) := by decide +kernel
theorem dX5_keep_38 : decode cX5_keep 38 = .ok (.invokespecial 9, 3) := by decide +kernel
theorem dX5_keep_41 : decode cX5_keep 41 = .ok (.aastore, 1) := by decide +kernel
theorem dX5_keep_42 : decode cX5_keep 42 = .ok (.aload_n 0, 1) := by decide +kernel
theorem dX5_keep_43 : decode cX5_keep 43 = .ok (.getfield 16, 3) := by decide +kernel
theorem dX5_keep_46 : decode cX5_keep 46 = .ok (.iload_n 1, 1) := by decide +kernel
theorem dX5_keep_47 : decode cX5_keep 47 = .ok (.aaload, 1) := by decide +kernel
theorem dX5_keep_48 : decode cX5_keep 48 = .ok (.aload_n 0, 1) := by decide +kernel
theorem dX5_keep_49 : decode cX5_keep 49 = .ok (.getfield 10, 3) := by decide +kernel
theorem dX5_keep_52 : decode cX5_keep 52 = .ok (.invokevirtual 153, 3) := by decide +kernel
theorem dX5_keep_55 : decode cX5_keep 55 = .ok (.iload_n 2, 1) := by decide +kernel
theorem dX5_keep_56 : decode cX5_keep 56 = .ok (.invokestatic 82, 3) := by decide +kernel
theorem dX5_keep_59 : decode cX5_keep 59 = .ok (.ireturn, 1) := by decide +kernel
theorem dX5_again_0 : decode cX5_again 0 = .ok (.aload_n 0, 1) := by decide +kernel
theorem dX5_again_1 : decode cX5_again 1 = .ok (.iload_n 1, 1) := by decide +kernel
theorem dX5_again_2 : decode cX5_again 2 = .ok (.invokevirtual 150, 3) := by decide +kernel
theorem dX5_again_5 : decode cX5_again 5 = .ok (.ifCond .eq 5, 3) := by decide +kernel
theorem dX5_again_8 : decode cX5_again 8 = .ok (.iconst (-1), 1) := by decide +kernel
theorem dX5_again_9 : decode cX5_again 9 = .ok (.ireturn, 1) := by decide +kernel
theorem dX5_again_10 : decode cX5_again 10 = .ok (.aload_n 0, 1) := by decide +kernel
theorem dX5_again_11 : decode cX5_again 11 = .ok (.getfield 16, 3) := by decide +kernel
theorem dX5_again_14 : decode cX5_again 14 = .ok (.iload_n 1, 1) := by decide +kernel
theorem dX5_again_15 : decode cX5_again 15 = .ok (.aaload, 1) := by decide +kernel
theorem dX5_again_16 : decode cX5_again 16 = .ok (.astore_n 2, 1) := by decide +kernel
theorem dX5_again_17 : decode cX5_again 17 = .ok (.aload_n 2, 1) := by decide +kernel
theorem dX5_again_18 : decode cX5_again 18 = .ok (.ifnonnull 6, 3) := by decide +kernel
theorem dX5_again_21 : decode cX5_again 21 = .ok (.bipush (-2), 2) := by decide +kernel
theorem dX5_again_23 : decode cX5_again 23 = .ok (.ireturn, 1) := by decide +kernel
theorem dX5_again_24 : decode cX5_again 24 = .ok (.aload_n 0, 1) := by decide +kernel
theorem dX5_again_25 : decode cX5_again 25 = .ok (.getfield 10, 3) := by decide +kernel
theorem dX5_again_28 : decode cX5_again 28 = .ok (.aload_n 2, 1) := by decide +kernel
theorem dX5_again_29 : decode cX5_again 29 = .ok (.invokevirtual 153, 3) := by decide +kernel
theorem dX5_again_32 : decode cX5_again 32 = .ok (.aload_n 0, 1) := by decide +kernel
theorem dX5_again_33 : decode cX5_again 33 = .ok (.getfield 10, 3) := by decide +kernel
theorem dX5_again_36 : decode cX5_again 36 = .ok (.getfield 68, 3) := by decide +kernel
theorem dX5_again_39 : decode cX5_again 39 = .ok (.ireturn, 1) := by decide +kernel
theorem dX5_isNoFrame_0 : decode cX5_isNoFrame 0 = .ok (.iload_n 1, 1) := by decide +kernel
theorem dX5_isNoFrame_1 : decode cX5_isNoFrame 1 = .ok (.invokestatic 20, 3) := by decide +kernel
theorem dX5_isNoFrame_4 : decode cX5_isNoFrame 4 = .ok (.ifCond .ne 23, 3) := by decide +kernel
theorem dX5_isNoFrame_7 : decode cX5_isNoFrame 7 = .ok (.iload_n 2, 1) := by decide +kernel
theorem dX5_isNoFrame_8 : decode cX5_isNoFrame 8 = .ok (.ifCond .lt 19, 3) := by decide +kernel
theorem dX5_isNoFrame_11 : decode cX5_isNoFrame 11 = .ok (.iload_n 2, 1) := by decide +kernel
theorem dX5_isNoFrame_12 : decode cX5_isNoFrame 12 = .ok (.aload_n 0, 1) := by decide +kernel
theorem dX5_isNoFrame_13 : decode cX5_isNoFrame 13 = .ok (.getfield 10, 3) := by decide +kernel
theorem dX5_isNoFrame_16 : decode cX5_isNoFrame 16 = .ok (.getfield 90, 3) := by decide +kernel
theorem dX5_isNoFrame_19 : decode cX5_isNoFrame 19 = .ok (.iload_n 1, 1) := by decide +kernel
theorem dX5_isNoFrame_20 : decode cX5_isNoFrame 20 = .ok (.aaload, 1) := by decide +kernel
theorem dX5_isNoFrame_21 : decode cX5_isNoFrame 21 = .ok (.getfield 112, 3) := by decide +kernel
theorem dX5_isNoFrame_24 : decode cX5_isNoFrame 24 = .ok (.if_icmp .lt 7, 3) := by decide +kernel
theorem dX5_isNoFrame_27 : decode cX5_isNoFrame 27 = .ok (.iconst 1, 1) := by decide +kernel
theorem dX5_isNoFrame_28 : decode cX5_isNoFrame 28 = .ok (.goto 4, 3) := by decide +kernel
theorem dX5_isNoFrame_31 : decode cX5_isNoFrame 31 = .ok (.iconst 0, 1) := by decide +kernel
theorem dX5_isNoFrame_32 : decode cX5_isNoFrame 32 = .ok (.ireturn, 1) := by decide +kernel
theorem dX5_isNoPlaceToKeep_0 : decode cX5_isNoPlaceToKeep 0 = .ok (.iload_n 1, 1) := by decide +kernel
theorem dX5_isNoPlaceToKeep_1 : decode cX5_isNoPlaceToKeep 1 = .ok (.ifCond .lt 12, 3) := by decide +kernel
theorem dX5_isNoPlaceToKeep_4 : decode cX5_isNoPlaceToKeep 4 = .ok (.iload_n 1, 1) := by decide +kernel
theorem dX5_isNoPlaceToKeep_5 : decode cX5_isNoPlaceToKeep 5 = .ok (.aload_n 0, 1) := by decide +kernel
theorem dX5_isNoPlaceToKeep_6 : decode cX5_isNoPlaceToKeep 6 = .ok (.getfield 16, 3) := by decide +kernel
theorem dX5_isNoPlaceToKeep_9 : decode cX5_isNoPlaceToKeep 9 = .ok (.arraylength, 1) := by decide +kernel
theorem dX5_isNoPlaceToKeep_10 : decode cX5_isNoPlaceToKeep 10 = .ok (.if_icmp .lt 7, 3) := by decide +kernel
theorem dX5_isNoPlaceToKeep_13 : decode cX5_isNoPlaceToKeep 13 = .ok (.iconst 1, 1) := by decide +kernel
theorem dX5_isNoPlaceToKeep_14 : decode cX5_isNoPlaceToKeep 14 = .ok (.goto 4, 3) := by decide +kernel
theorem dX5_isNoPlaceToKeep_17 : decode cX5_isNoPlaceToKeep 17 = .ok (.iconst 0, 1) := by decide +kernel
theorem dX5_isNoPlaceToKeep_18 : decode cX5_isNoPlaceToKeep 18 = .ok (.ireturn, 1) := by decide +kernel
theorem dX5_isNoSide_0 : decode cX5_isNoSide 0 = .ok (.iload_n 0, 1) := by decide +kernel
theorem dX5_isNoSide_1 : decode cX5_isNoSide 1 = .ok (.ifCond .lt 8, 3) := by decide +kernel
theorem dX5_isNoSide_4 : decode cX5_isNoSide 4 = .ok (.iload_n 0, 1) := by decide +kernel
theorem dX5_isNoSide_5 : decode cX5_isNoSide 5 = .ok (.iconst 2, 1) := by decide +kernel
theorem dX5_isNoSide_6 : decode cX5_isNoSide 6 = .ok (.if_icmp .lt 7, 3) := by decide +kernel
theorem dX5_isNoSide_9 : decode cX5_isNoSide 9 = .ok (.iconst 1, 1) := by decide +kernel
theorem dX5_isNoSide_10 : decode cX5_isNoSide 10 = .ok (.goto 4, 3) := by decide +kernel
theorem dX5_isNoSide_13 : decode cX5_isNoSide 13 = .ok (.iconst 0, 1) := by decide +kernel
theorem dX5_isNoSide_14 : decode cX5_isNoSide 14 = .ok (.ireturn, 1) := by decide +kernel
theorem dX5_asNumber_0 : decode cX5_asNumber 0 = .ok (.iload_n 0, 1) := by decide +kernel
theorem dX5_asNumber_1 : decode cX5_asNumber 1 = .ok (.ifCond .eq 7, 3) := by decide +kernel
theorem dX5_asNumber_4 : decode cX5_asNumber 4 = .ok (.iconst 1, 1) := by decide +kernel
theorem dX5_asNumber_5 : decode cX5_asNumber 5 = .ok (.goto 4, 3) := by decide +kernel
theorem dX5_asNumber_8 : decode cX5_asNumber 8 = .ok (.iconst 0, 1) := by decide +kernel
theorem dX5_asNumber_9 : decode cX5_asNumber 9 = .ok (.ireturn, 1) := by decide +kernel
theorem dX5_by64_0 : decode cX5_by64 0 = .ok (.iload_n 0, 1) := by decide +kernel
theorem dX5_by64_1 : decode cX5_by64 1 = .ok (.bipush 63, 2) := by decide +kernel
theorem dX5_by64_3 : decode cX5_by64 3 = .ok (.iand, 1) := by decide +kernel
theorem dX5_by64_4 : decode cX5_by64 4 = .ok (.ireturn, 1) := by decide +kernel
theorem dX5_checkOf_0 : decode cX5_checkOf 0 = .ok (.iload_n 0, 1) := by decide +kernel
theorem dX5_checkOf_1 : decode cX5_checkOf 1 = .ok (.bipush 32, 2) := by decide +kernel
theorem dX5_checkOf_3 : decode cX5_checkOf 3 = .ok (.if_icmp .ne 9, 3) := by decide +kernel
theorem dX5_checkOf_6 : decode cX5_checkOf 6 = .ok (.ldc2_w 157, 3) := by decide +kernel
theorem dX5_checkOf_9 : decode cX5_checkOf 9 = .ok (.goto 6, 3) := by decide +kernel
theorem dX5_checkOf_12 : decode cX5_checkOf 12 = .ok (.ldc2_w 159, 3) := by decide +kernel
theorem dX5_checkOf_15 : decode cX5_checkOf 15 = .ok (.lstore 4, 2) := by decide +kernel
theorem dX5_checkOf_17 : decode cX5_checkOf 17 = .ok (.lconst 1, 1) := by decide +kernel
theorem dX5_checkOf_18 : decode cX5_checkOf 18 = .ok (.iload_n 0, 1) := by decide +kernel
theorem dX5_checkOf_19 : decode cX5_checkOf 19 = .ok (.lshl, 1) := by decide +kernel
theorem dX5_checkOf_20 : decode cX5_checkOf 20 = .ok (.lconst 1, 1) := by decide +kernel
theorem dX5_checkOf_21 : decode cX5_checkOf 21 = .ok (.lsub, 1) := by decide +kernel
theorem dX5_checkOf_22 : decode cX5_checkOf 22 = .ok (.lstore 6, 2) := by decide +kernel
theorem dX5_checkOf_24 : decode cX5_checkOf 24 = .ok (.lload 6, 2) := by decide +kernel
theorem dX5_checkOf_26 : decode cX5_checkOf 26 = .ok (.lstore 8, 2) := by decide +kernel
theorem dX5_checkOf_28 : decode cX5_checkOf 28 = .ok (.iload_n 2, 1) := by decide +kernel
theorem dX5_checkOf_29 : decode cX5_checkOf 29 = .ok (.istore 10, 2) := by decide +kernel
theorem dX5_checkOf_31 : decode cX5_checkOf 31 = .ok (.iload 10, 2) := by decide +kernel
theorem dX5_checkOf_33 : decode cX5_checkOf 33 = .ok (.iload_n 3, 1) := by decide +kernel
theorem dX5_checkOf_34 : decode cX5_checkOf 34 = .ok (.if_icmp .ge 60, 3) := by decide +kernel
theorem dX5_checkOf_37 : decode cX5_checkOf 37 = .ok (.lload 8, 2) := by decide +kernel
theorem dX5_checkOf_39 : decode cX5_checkOf 39 = .ok (.aload_n 1, 1) := by decide +kernel
theorem dX5_checkOf_40 : decode cX5_checkOf 40 = .ok (.iload 10, 2) := by decide +kernel
theorem dX5_checkOf_42 : decode cX5_checkOf 42 = .ok (.iaload, 1) := by decide +kernel
theorem dX5_checkOf_43 : decode cX5_checkOf 43 = .ok (.i2l, 1) := by decide +kernel
theorem dX5_checkOf_44 : decode cX5_checkOf 44 = .ok (.lxor, 1) := by decide +kernel
theorem dX5_checkOf_45 : decode cX5_checkOf 45 = .ok (.lstore 8, 2) := by decide +kernel
theorem dX5_checkOf_47 : decode cX5_checkOf 47 = .ok (.iconst 0, 1) := by decide +kernel
theorem dX5_checkOf_48 : decode cX5_checkOf 48 = .ok (.istore 11, 2) := by decide +kernel
theorem dX5_checkOf_50 : decode cX5_checkOf 50 = .ok (.iload 11, 2) := by decide +kernel
theorem dX5_checkOf_52 : decode cX5_checkOf 52 = .ok (.bipush 8, 2) := by decide +kernel
theorem dX5_checkOf_54 : decode cX5_checkOf 54 = .ok (.if_icmp .ge 34, 3) := by decide +kernel
theorem dX5_checkOf_57 : decode cX5_checkOf 57 = .ok (.lload 8, 2) := by decide +kernel
theorem dX5_checkOf_59 : decode cX5_checkOf 59 = .ok (.lconst 1, 1) := by decide +kernel
theorem dX5_checkOf_60 : decode cX5_checkOf 60 = .ok (.land, 1) := by decide +kernel
theorem dX5_checkOf_61 : decode cX5_checkOf 61 = .ok (.lconst 0, 1) := by decide +kernel
theorem dX5_checkOf_62 : decode cX5_checkOf 62 = .ok (.lcmp, 1) := by decide +kernel
theorem dX5_checkOf_63 : decode cX5_checkOf 63 = .ok (.ifCond .ne 10, 3) := by decide +kernel
theorem dX5_checkOf_66 : decode cX5_checkOf 66 = .ok (.lload 8, 2) := by decide +kernel
theorem dX5_checkOf_68 : decode cX5_checkOf 68 = .ok (.iconst 1, 1) := by decide +kernel
theorem dX5_checkOf_69 : decode cX5_checkOf 69 = .ok (.lushr, 1) := by decide +kernel
theorem dX5_checkOf_70 : decode cX5_checkOf 70 = .ok (.goto 10, 3) := by decide +kernel
theorem dX5_checkOf_73 : decode cX5_checkOf 73 = .ok (.lload 8, 2) := by decide +kernel
theorem dX5_checkOf_75 : decode cX5_checkOf 75 = .ok (.iconst 1, 1) := by decide +kernel
theorem dX5_checkOf_76 : decode cX5_checkOf 76 = .ok (.lushr, 1) := by decide +kernel
theorem dX5_checkOf_77 : decode cX5_checkOf 77 = .ok (.lload 4, 2) := by decide +kernel
theorem dX5_checkOf_79 : decode cX5_checkOf 79 = .ok (.lxor, 1) := by decide +kernel
theorem dX5_checkOf_80 : decode cX5_checkOf 80 = .ok (.lstore 8, 2) := by decide +kernel
theorem dX5_checkOf_82 : decode cX5_checkOf 82 = .ok (.iinc 11 1, 3) := by decide +kernel
theorem dX5_checkOf_85 : decode cX5_checkOf 85 = .ok (.goto (-35), 3) := by decide +kernel
theorem dX5_checkOf_88 : decode cX5_checkOf 88 = .ok (.iinc 10 1, 3) := by decide +kernel
theorem dX5_checkOf_91 : decode cX5_checkOf 91 = .ok (.goto (-60), 3) := by decide +kernel
theorem dX5_checkOf_94 : decode cX5_checkOf 94 = .ok (.lload 8, 2) := by decide +kernel
theorem dX5_checkOf_96 : decode cX5_checkOf 96 = .ok (.lload 6, 2) := by decide +kernel
theorem dX5_checkOf_98 : decode cX5_checkOf 98 = .ok (.lxor, 1) := by decide +kernel
theorem dX5_checkOf_99 : decode cX5_checkOf 99 = .ok (.lreturn, 1) := by decide +kernel
theorem dX5_turned_0 : decode cX5_turned 0 = .ok (.lload_n 0, 1) := by decide +kernel
theorem dX5_turned_1 : decode cX5_turned 1 = .ok (.ldc2_w 161, 3) := by decide +kernel
theorem dX5_turned_4 : decode cX5_turned 4 = .ok (.lxor, 1) := by decide +kernel
theorem dX5_turned_5 : decode cX5_turned 5 = .ok (.lreturn, 1) := by decide +kernel
theorem dX6_init_0 : decode cX6_init 0 = .ok (.aload_n 0, 1) := by decide +kernel
theorem dX6_init_1 : decode cX6_init 1 = .ok (.invokespecial 1, 3) := by decide +kernel
theorem dX6_init_4 : decode cX6_init 4 = .ok (.aload_n 0, 1) := by decide +kernel
theorem dX6_init_5 : decode cX6_init 5 = .ok (.sipush 8000, 3) := by decide +kernel
theorem dX6_init_8 : decode cX6_init 8 = .ok (.newarray .int, 2) := by decide +kernel
theorem dX6_init_10 : decode cX6_init 10 = .ok (.putfield 7, 3) := by decide +kernel
theorem dX6_init_13 : decode cX6_init 13 = .ok (.aload_n 0, 1) := by decide +kernel
theorem dX6_init_14 : decode cX6_init 14 = .ok (.sipush 16000, 3) := by decide +kernel
theorem dX6_init_17 : decode cX6_init 17 = .ok (.newarray .int, 2) := by decide +kernel
theorem dX6_init_19 : decode cX6_init 19 = .ok (.putfield 13, 3) := by decide +kernel
theorem dX6_init_22 : decode cX6_init 22 = .ok (.aload_n 0, 1) := by decide +kernel
theorem dX6_init_23 : decode cX6_init 23 = .ok (.iconst 2, 1) := by decide +kernel
theorem dX6_init_24 : decode cX6_init 24 = .ok (.newarray .boolean, 2) := by decide +kernel
theorem dX6_init_26 : decode cX6_init 26 = .ok (.putfield 16, 3) := by decide +kernel
theorem dX6_init_29 : decode cX6_init 29 = .ok (.aload_n 0, 1) := by decide +kernel
theorem dX6_init_30 : decode cX6_init 30 = .ok (.getfield 7, 3) := by decide +kernel
theorem dX6_init_33 : decode cX6_init 33 = .ok (.iconst 0, 1) := by decide +kernel
theorem dX6_init_34 : decode cX6_init 34 = .ok (.iconst 1, 1) := by decide +kernel
theorem dX6_init_35 : decode cX6_init 35 = .ok (.iastore, 1) := by decide +kernel
theorem dX6_init_36 : decode cX6_init 36 = .ok (.aload_n 0, 1) := by decide +kernel
theorem dX6_init_37 : decode cX6_init 37 = .ok (.getfield 7, 3) := by decide +kernel
theorem dX6_init_40 : decode cX6_init 40 = .ok (.iconst 1, 1) := by decide +kernel
theorem dX6_init_41 : decode cX6_init 41 = .ok (.bipush 12, 2) := by decide +kernel
theorem dX6_init_43 : decode cX6_init 43 = .ok (.iastore, 1) := by decide +kernel
theorem dX6_init_44 : decode cX6_init 44 = .ok (.aload_n 0, 1) := by decide +kernel
theorem dX6_init_45 : decode cX6_init 45 = .ok (.getfield 7, 3) := by decide +kernel
theorem dX6_init_48 : decode cX6_init 48 = .ok (.iconst 2, 1) := by decide +kernel
theorem dX6_init_49 : decode cX6_init 49 = .ok (.iconst 2, 1) := by decide +kernel
theorem dX6_init_50 : decode cX6_init 50 = .ok (.iastore, 1) := by decide +kernel
theorem dX6_init_51 : decode cX6_init 51 = .ok (.iconst 0, 1) := by decide +kernel
theorem dX6_init_52 : decode cX6_init 52 = .ok (.istore_n 1, 1) := by decide +kernel
theorem dX6_init_53 : decode cX6_init 53 = .ok (.iload_n 1, 1) := by decide +kernel
theorem dX6_init_54 : decode cX6_init 54 = .ok (.iconst 2, 1) := by decide +kernel
theorem dX6_init_55 : decode cX6_init 55 = .ok (.if_icmp .ge 36, 3) := by decide +kernel
theorem dX6_init_58 : decode cX6_init 58 = .ok (.aload_n 0, 1) := by decide +kernel
theorem dX6_init_59 : decode cX6_init 59 = .ok (.getfield 7, 3) := by decide +kernel
theorem dX6_init_62 : decode cX6_init 62 = .ok (.iload_n 1, 1) := by decide +kernel
theorem dX6_init_63 : decode cX6_init 63 = .ok (.invokestatic 20, 3) := by decide +kernel
theorem dX6_init_66 : decode cX6_init 66 = .ok (.iconst 3, 1) := by decide +kernel
theorem dX6_init_67 : decode cX6_init 67 = .ok (.iadd, 1) := by decide +kernel
theorem dX6_init_68 : decode cX6_init 68 = .ok (.bipush 63, 2) := by decide +kernel
theorem dX6_init_70 : decode cX6_init 70 = .ok (.iastore, 1) := by decide +kernel
theorem dX6_init_71 : decode cX6_init 71 = .ok (.aload_n 0, 1) := by decide +kernel
theorem dX6_init_72 : decode cX6_init 72 = .ok (.getfield 7, 3) := by decide +kernel
theorem dX6_init_75 : decode cX6_init 75 = .ok (.iload_n 1, 1) := by decide +kernel
theorem dX6_init_76 : decode cX6_init 76 = .ok (.invokestatic 20, 3) := by decide +kernel
theorem dX6_init_79 : decode cX6_init 79 = .ok (.bipush 9, 2) := by decide +kernel
theorem dX6_init_81 : decode cX6_init 81 = .ok (.iadd, 1) := by decide +kernel
theorem dX6_init_82 : decode cX6_init 82 = .ok (.bipush (-4), 2) := by decide +kernel
theorem dX6_init_84 : decode cX6_init 84 = .ok (.iastore, 1) := by decide +kernel
theorem dX6_init_85 : decode cX6_init 85 = .ok (.iinc 1 1, 3) := by decide +kernel
theorem dX6_init_88 : decode cX6_init 88 = .ok (.goto (-35), 3) := by decide +kernel
theorem dX6_init_91 : decode cX6_init 91 = .ok (.return_, 1) := by decide +kernel
theorem dX6_in_0 : decode cX6_in 0 = .ok (.lload_n 0, 1) := by decide +kernel
theorem dX6_in_1 : decode cX6_in 1 = .ok (.lload_n 2, 1) := by decide +kernel
theorem dX6_in_2 : decode cX6_in 2 = .ok (.lcmp, 1) := by decide +kernel
theorem dX6_in_3 : decode cX6_in 3 = .ok (.ifCond .lt 14, 3) := by decide +kernel
theorem dX6_in_6 : decode cX6_in 6 = .ok (.lload_n 0, 1) := by decide +kernel
theorem dX6_in_7 : decode cX6_in 7 = .ok (.lload 4, 2) := by decide +kernel
theorem dX6_in_9 : decode cX6_in 9 = .ok (.lcmp, 1) := by decide +kernel
theorem dX6_in_10 : decode cX6_in 10 = .ok (.ifCond .gt 7, 3) := by decide +kernel
theorem dX6_in_13 : decode cX6_in 13 = .ok (.iconst 1, 1) := by decide +kernel
theorem dX6_in_14 : decode cX6_in 14 = .ok (.goto 4, 3) := by decide +kernel
theorem dX6_in_17 : decode cX6_in 17 = .ok (.iconst 0, 1) := by decide +kernel
theorem dX6_in_18 : decode cX6_in 18 = .ok (.ireturn, 1) := by decide +kernel
theorem dX6_endAt_0 : decode cX6_endAt 0 = .ok (.bipush 100, 2) := by decide +kernel
theorem dX6_endAt_2 : decode cX6_endAt 2 = .ok (.bipush 100, 2) := by decide +kernel
theorem dX6_endAt_4 : decode cX6_endAt 4 = .ok (.iload_n 0, 1) := by decide +kernel
theorem dX6_endAt_5 : decode cX6_endAt 5 = .ok (.imul, 1) := by decide +kernel
theorem dX6_endAt_6 : decode cX6_endAt 6 = .ok (.iadd, 1) := by decide +kernel
theorem dX6_endAt_7 : decode cX6_endAt 7 = .ok (.ireturn, 1) := by decide +kernel
theorem dX6_wireAt_0 : decode cX6_wireAt 0 = .ok (.sipush 300, 3) := by decide +kernel
theorem dX6_wireAt_3 : decode cX6_wireAt 3 = .ok (.sipush 500, 3) := by decide +kernel
theorem dX6_wireAt_6 : decode cX6_wireAt 6 = .ok (.iload_n 0, 1) := by decide +kernel
theorem dX6_wireAt_7 : decode cX6_wireAt 7 = .ok (.imul, 1) := by decide +kernel
theorem dX6_wireAt_8 : decode cX6_wireAt 8 = .ok (.iadd, 1) := by decide +kernel
theorem dX6_wireAt_9 : decode cX6_wireAt 9 = .ok (.ireturn, 1) := by decide +kernel
theorem dX6_frameAt_0 : decode cX6_frameAt 0 = .ok (.iload_n 0, 1) := by decide +kernel
theorem dX6_frameAt_1 : decode cX6_frameAt 1 = .ok (.invokestatic 24, 3) := by decide +kernel
theorem dX6_frameAt_4 : decode cX6_frameAt 4 = .ok (.iconst 1, 1) := by decide +kernel
theorem dX6_frameAt_5 : decode cX6_frameAt 5 = .ok (.iadd, 1) := by decide +kernel
theorem dX6_frameAt_6 : decode cX6_frameAt 6 = .ok (.bipush 36, 2) := by decide +kernel
theorem dX6_frameAt_8 : decode cX6_frameAt 8 = .ok (.iload_n 1, 1) := by decide +kernel
theorem dX6_frameAt_9 : decode cX6_frameAt 9 = .ok (.imul, 1) := by decide +kernel
theorem dX6_frameAt_10 : decode cX6_frameAt 10 = .ok (.iadd, 1) := by decide +kernel
theorem dX6_frameAt_11 : decode cX6_frameAt 11 = .ok (.ireturn, 1) := by decide +kernel
theorem dX6_packetAt_0 : decode cX6_packetAt 0 = .ok (.sipush 1400, 3) := by decide +kernel
theorem dX6_packetAt_3 : decode cX6_packetAt 3 = .ok (.sipush 1600, 3) := by decide +kernel
theorem dX6_packetAt_6 : decode cX6_packetAt 6 = .ok (.iload_n 0, 1) := by decide +kernel
theorem dX6_packetAt_7 : decode cX6_packetAt 7 = .ok (.imul, 1) := by decide +kernel
theorem dX6_packetAt_8 : decode cX6_packetAt 8 = .ok (.iadd, 1) := by decide +kernel
theorem dX6_packetAt_9 : decode cX6_packetAt 9 = .ok (.bipush 25, 2) := by decide +kernel
theorem dX6_packetAt_11 : decode cX6_packetAt 11 = .ok (.iload_n 1, 1) := by decide +kernel
theorem dX6_packetAt_12 : decode cX6_packetAt 12 = .ok (.imul, 1) := by decide +kernel
theorem dX6_packetAt_13 : decode cX6_packetAt 13 = .ok (.iadd, 1) := by decide +kernel
theorem dX6_packetAt_14 : decode cX6_packetAt 14 = .ok (.ireturn, 1) := by decide +kernel
theorem dX6_upAt_0 : decode cX6_upAt 0 = .ok (.sipush 4600, 3) := by decide +kernel
theorem dX6_upAt_3 : decode cX6_upAt 3 = .ok (.sipush 1600, 3) := by decide +kernel
theorem dX6_upAt_6 : decode cX6_upAt 6 = .ok (.iload_n 0, 1) := by decide +kernel
theorem dX6_upAt_7 : decode cX6_upAt 7 = .ok (.imul, 1) := by decide +kernel
theorem dX6_upAt_8 : decode cX6_upAt 8 = .ok (.iadd, 1) := by decide +kernel
theorem dX6_upAt_9 : decode cX6_upAt 9 = .ok (.bipush 25, 2) := by decide +kernel
theorem dX6_upAt_11 : decode cX6_upAt 11 = .ok (.iload_n 1, 1) := by decide +kernel
theorem dX6_upAt_12 : decode cX6_upAt 12 = .ok (.imul, 1) := by decide +kernel
theorem dX6_upAt_13 : decode cX6_upAt 13 = .ok (.iadd, 1) := by decide +kernel
theorem dX6_upAt_14 : decode cX6_upAt 14 = .ok (.ireturn, 1) := by decide +kernel
theorem dX6_by64_0 : decode cX6_by64 0 = .ok (.iload_n 0, 1) := by decide +kernel
theorem dX6_by64_1 : decode cX6_by64 1 = .ok (.bipush 64, 2) := by decide +kernel
theorem dX6_by64_3 : decode cX6_by64 3 = .ok (.irem, 1) := by decide +kernel
theorem dX6_by64_4 : decode cX6_by64 4 = .ok (.ifCond .ge 13, 3) := by decide +kernel
theorem dX6_by64_7 : decode cX6_by64 7 = .ok (.iload_n 0, 1) := by decide +kernel
theorem dX6_by64_8 : decode cX6_by64 8 = .ok (.bipush 64, 2) := by decide +kernel
theorem dX6_by64_10 : decode cX6_by64 10 = .ok (.irem, 1) := by decide +kernel
theorem dX6_by64_11 : decode cX6_by64 11 = .ok (.bipush 64, 2) := by decide +kernel
theorem dX6_by64_13 : decode cX6_by64 13 = .ok (.iadd, 1) := by decide +kernel
theorem dX6_by64_14 : decode cX6_by64 14 = .ok (.goto 7, 3) := by decide +kernel
theorem dX6_by64_17 : decode cX6_by64 17 = .ok (.iload_n 0, 1) := by decide +kernel
theorem dX6_by64_18 : decode cX6_by64 18 = .ok (.bipush 64, 2) := by decide +kernel
theorem dX6_by64_20 : decode cX6_by64 20 = .ok (.irem, 1) := by decide +kernel
theorem dX6_by64_21 : decode cX6_by64 21 = .ok (.ireturn, 1) := by decide +kernel
theorem dX6_isEnd_0 : decode cX6_isEnd 0 = .ok (.iload_n 0, 1) := by decide +kernel
theorem dX6_isEnd_1 : decode cX6_isEnd 1 = .ok (.ifCond .eq 8, 3) := by decide +kernel
theorem dX6_isEnd_4 : decode cX6_isEnd 4 = .ok (.iload_n 0, 1) := by decide +kernel
theorem dX6_isEnd_5 : decode cX6_isEnd 5 = .ok (.iconst 1, 1) := by decide +kernel
theorem dX6_isEnd_6 : decode cX6_isEnd 6 = .ok (.if_icmp .ne 7, 3) := by decide +kernel
theorem dX6_isEnd_9 : decode cX6_isEnd 9 = .ok (.iconst 1, 1) := by decide +kernel
theorem dX6_isEnd_10 : decode cX6_isEnd 10 = .ok (.goto 4, 3) := by decide +kernel
theorem dX6_isEnd_13 : decode cX6_isEnd 13 = .ok (.iconst 0, 1) := by decide +kernel
theorem dX6_isEnd_14 : decode cX6_isEnd 14 = .ok (.ireturn, 1) := by decide +kernel
theorem dX6_begins_0 : decode cX6_begins 0 = .ok (.aload_n 0, 1) := by decide +kernel
theorem dX6_begins_1 : decode cX6_begins 1 = .ok (.iload_n 1, 1) := by decide +kernel
theorem dX6_begins_2 : decode cX6_begins 2 = .ok (.ifCond .eq 9, 3) := by decide +kernel
theorem dX6_begins_5 : decode cX6_begins 5 = .ok (.ldc2_w 27, 3) := by decide +kernel
theorem dX6_begins_8 : decode cX6_begins 8 = .ok (.goto 6, 3) := by decide +kernel
theorem dX6_begins_11 : decode cX6_begins 11 = .ok (.ldc2_w 29, 3) := by decide +kernel
theorem dX6_begins_14 : decode cX6_begins 14 = .ok (.putfield 31, 3) := by decide +kernel
theorem dX6_begins_17 : decode cX6_begins 17 = .ok (.return_, 1) := by decide +kernel
theorem dX6_adds_0 : decode cX6_adds 0 = .ok (.aload_n 0, 1) := by decide +kernel
theorem dX6_adds_1 : decode cX6_adds 1 = .ok (.aload_n 0, 1) := by decide +kernel
theorem dX6_adds_2 : decode cX6_adds 2 = .ok (.getfield 31, 3) := by decide +kernel
theorem dX6_adds_5 : decode cX6_adds 5 = .ok (.iload_n 1, 1) := by decide +kernel
theorem dX6_adds_6 : decode cX6_adds 6 = .ok (.sipush 255, 3) := by decide +kernel
theorem dX6_adds_9 : decode cX6_adds 9 = .ok (.iand, 1) := by decide +kernel
theorem dX6_adds_10 : decode cX6_adds 10 = .ok (.i2l, 1) := by decide +kernel
theorem dX6_adds_11 : decode cX6_adds 11 = .ok (.lxor, 1) := by decide +kernel
theorem dX6_adds_12 : decode cX6_adds 12 = .ok (.putfield 31, 3) := by decide +kernel
theorem dX6_adds_15 : decode cX6_adds 15 = .ok (.iconst 0, 1) := by decide +kernel
theorem dX6_adds_16 : decode cX6_adds 16 = .ok (.istore_n 3, 1) := by decide +kernel
theorem dX6_adds_17 : decode cX6_adds 17 = .ok (.iload_n 3, 1) := by decide +kernel
theorem dX6_adds_18 : decode cX6_adds 18 = .ok (.bipush 8, 2) := by decide +kernel
theorem dX6_adds_20 : decode cX6_adds 20 = .ok (.if_icmp .ge 53, 3) := by decide +kernel
theorem dX6_adds_23 : decode cX6_adds 23 = .ok (.aload_n 0, 1) := by decide +kernel
theorem dX6_adds_24 : decode cX6_adds 24 = .ok (.aload_n 0, 1) := by decide +kernel
theorem dX6_adds_25 : decode cX6_adds 25 = .ok (.getfield 31, 3) := by decide +kernel
theorem dX6_adds_28 : decode cX6_adds 28 = .ok (.lconst 1, 1) := by decide +kernel
theorem dX6_adds_29 : decode cX6_adds 29 = .ok (.land, 1) := by decide +kernel
theorem dX6_adds_30 : decode cX6_adds 30 = .ok (.lconst 0, 1) := by decide +kernel
theorem dX6_adds_31 : decode cX6_adds 31 = .ok (.lcmp, 1) := by decide +kernel
theorem dX6_adds_32 : decode cX6_adds 32 = .ok (.ifCond .ne 12, 3) := by decide +kernel
theorem dX6_adds_35 : decode cX6_adds 35 = .ok (.aload_n 0, 1) := by decide +kernel
theorem dX6_adds_36 : decode cX6_adds 36 = .ok (.getfield 31, 3) := by decide +kernel
theorem dX6_adds_39 : decode cX6_adds 39 = .ok (.iconst 1, 1) := by decide +kernel
theorem dX6_adds_40 : decode cX6_adds 40 = .ok (.lshr, 1) := by decide +kernel
theorem dX6_adds_41 : decode cX6_adds 41 = .ok (.goto 23, 3) := by decide +kernel
theorem dX6_adds_44 : decode cX6_adds 44 = .ok (.aload_n 0, 1) := by decide +kernel
theorem dX6_adds_45 : decode cX6_adds 45 = .ok (.getfield 31, 3) := by decide +kernel
theorem dX6_adds_48 : decode cX6_adds 48 = .ok (.iconst 1, 1) := by decide +kernel
theorem dX6_adds_49 : decode cX6_adds 49 = .ok (.lshr, 1) := by decide +kernel
theorem dX6_adds_50 : decode cX6_adds 50 = .ok (.iload_n 2, 1) := by decide +kernel
theorem dX6_adds_51 : decode cX6_adds 51 = .ok (.ifCond .eq 9, 3) := by decide +kernel
theorem dX6_adds_54 : decode cX6_adds 54 = .ok (.ldc2_w 35, 3) := by decide +kernel
theorem dX6_adds_57 : decode cX6_adds 57 = .ok (.goto 6, 3) := by decide +kernel
theorem dX6_adds_60 : decode cX6_adds 60 = .ok (.ldc2_w 37, 3) := by decide +kernel
theorem dX6_adds_63 : decode cX6_adds 63 = .ok (.lxor, 1) := by decide +kernel
theorem dX6_adds_64 : decode cX6_adds 64 = .ok (.putfield 31, 3) := by decide +kernel
theorem dX6_adds_67 : decode cX6_adds 67 = .ok (.iinc 3 1, 3) := by decide +kernel
theorem dX6_adds_70 : decode cX6_adds 70 = .ok (.goto (-53), 3) := by decide +kernel
theorem dX6_adds_73 : decode cX6_adds 73 = .ok (.return_, 1) := by decide +kernel
theorem dX6_sumOf_0 : decode cX6_sumOf 0 = .ok (.aload_n 0, 1) := by decide +kernel
theorem dX6_sumOf_1 : decode cX6_sumOf 1 = .ok (.getfield 31, 3) := by decide +kernel
theorem dX6_sumOf_4 : decode cX6_sumOf 4 = .ok (.iload_n 1, 1) := by decide +kernel
theorem dX6_sumOf_5 : decode cX6_sumOf 5 = .ok (.ifCond .eq 9, 3) := by decide +kernel
theorem dX6_sumOf_8 : decode cX6_sumOf 8 = .ok (.ldc2_w 27, 3) := by decide +kernel
theorem dX6_sumOf_11 : decode cX6_sumOf 11 = .ok (.goto 6, 3) := by decide +kernel
theorem dX6_sumOf_14 : decode cX6_sumOf 14 = .ok (.ldc2_w 29, 3) := by decide +kernel
theorem dX6_sumOf_17 : decode cX6_sumOf 17 = .ok (.lxor, 1) := by decide +kernel
theorem dX6_sumOf_18 : decode cX6_sumOf 18 = .ok (.lreturn, 1) := by decide +kernel
theorem dX6_draft_0 : decode cX6_draft 0 = .ok (.iload_n 1, 1) := by decide +kernel
theorem dX6_draft_1 : decode cX6_draft 1 = .ok (.invokestatic 39, 3) := by decide +kernel
theorem dX6_draft_4 : decode cX6_draft 4 = .ok (.ifCond .eq 15, 3) := by decide +kernel
theorem dX6_draft_7 : decode cX6_draft 7 = .ok (.iload_n 2, 1) := by decide +kernel
theorem dX6_draft_8 : decode cX6_draft 8 = .ok (.i2l, 1) := by decide +kernel
theorem dX6_draft_9 : decode cX6_draft 9 = .ok (.lconst 1, 1) := by decide +kernel
theorem dX6_draft_10 : decode cX6_draft 10 = .ok (.ldc2_w 43, 3) := by decide +kernel
theorem dX6_draft_13 : decode cX6_draft 13 = .ok (.invokestatic 45, 3) := by decide +kernel
theorem dX6_draft_16 : decode cX6_draft 16 = .ok (.ifCond .ne 5, 3) := by decide +kernel
theorem dX6_draft_19 : decode cX6_draft 19 = .ok (.iconst (-1), 1) := by decide +kernel
theorem dX6_draft_20 : decode cX6_draft 20 = .ok (.ireturn, 1) := by decide +kernel
theorem dX6_draft_21 : decode cX6_draft 21 = .ok (.iload_n 1, 1) := by decide +kernel
theorem dX6_draft_22 : decode cX6_draft 22 = .ok (.invokestatic 20, 3) := by decide +kernel
theorem dX6_draft_25 : decode cX6_draft 25 = .ok (.istore 5, 2) := by decide +kernel
theorem dX6_draft_27 : decode cX6_draft 27 = .ok (.aload_n 0, 1) := by decide +kernel
theorem dX6_draft_28 : decode cX6_draft 28 = .ok (.getfield 7, 3) := by decide +kernel
theorem dX6_draft_31 : decode cX6_draft 31 = .ok (.iload 5, 2) := by decide +kernel
theorem dX6_draft_33 : decode cX6_draft 33 = .ok (.bipush 13, 2) := by decide +kernel
theorem dX6_draft_35 : decode cX6_draft 35 = .ok (.iadd, 1) := by decide +kernel
theorem dX6_draft_36 : decode cX6_draft 36 = .ok (.iaload, 1) := by decide +kernel
theorem dX6_draft_37 : decode cX6_draft 37 = .ok (.iload_n 2, 1) := by decide +kernel
theorem dX6_draft_38 : decode cX6_draft 38 = .ok (.iadd, 1) := by decide +kernel
theorem dX6_draft_39 : decode cX6_draft 39 = .ok (.bipush 24, 2) := by decide +kernel
theorem dX6_draft_41 : decode cX6_draft 41 = .ok (.if_icmp .le 6, 3) := by decide +kernel
theorem dX6_draft_44 : decode cX6_draft 44 = .ok (.bipush (-3), 2) := by decide +kernel
theorem dX6_draft_46 : decode cX6_draft 46 = .ok (.ireturn, 1) := by decide +kernel
theorem dX6_draft_47 : decode cX6_draft 47 = .ok (.iconst 0, 1) := by decide +kernel
theorem dX6_draft_48 : decode cX6_draft 48 = .ok (.istore 6, 2) := by decide +kernel
theorem dX6_draft_50 : decode cX6_draft 50 = .ok (.iload 6, 2) := by decide +kernel
theorem dX6_draft_52 : decode cX6_draft 52 = .ok (.iload_n 2, 1) := by decide +kernel
theorem dX6_draft_53 : decode cX6_draft 53 = .ok (.if_icmp .ge 56, 3) := by decide +kernel
theorem dX6_draft_56 : decode cX6_draft 56 = .ok (.aload_n 0, 1) := by decide +kernel
theorem dX6_draft_57 : decode cX6_draft 57 = .ok (.getfield 7, 3) := by decide +kernel
theorem dX6_draft_60 : decode cX6_draft 60 = .ok (.iload 5, 2) := by decide +kernel
theorem dX6_draft_62 : decode cX6_draft 62 = .ok (.bipush 20, 2) := by decide +kernel
theorem dX6_draft_64 : decode cX6_draft 64 = .ok (.iadd, 1) := by decide +kernel
theorem dX6_draft_65 : decode cX6_draft 65 = .ok (.aload_n 0, 1) := by decide +kernel
theorem dX6_draft_66 : decode cX6_draft 66 = .ok (.getfield 7, 3) := by decide +kernel
theorem dX6_draft_69 : decode cX6_draft 69 = .ok (.iload 5, 2) := by decide +kernel
theorem dX6_draft_71 : decode cX6_draft 71 = .ok (.bipush 13, 2) := by decide +kernel
theorem dX6_draft_73 : decode cX6_draft 73 = .ok (.iadd, 1) := by decide +kernel
theorem dX6_draft_74 : decode cX6_draft 74 = .ok (.iaload, 1) := by decide +kernel
theorem dX6_draft_75 : decode cX6_draft 75 = .ok (.iadd, 1) := by decide +kernel
theorem dX6_draft_76 : decode cX6_draft 76 = .ok (.lload_n 3, 1) := by decide +kernel
theorem dX6_draft_77 : decode cX6_draft 77 = .ok (.bipush 8, 2) := by decide +kernel
theorem dX6_draft_79 : decode cX6_draft 79 = .ok (.iload 6, 2) := by decide +kernel
theorem dX6_draft_81 : decode cX6_draft 81 = .ok (.imul, 1) := by decide +kernel
theorem dX6_draft_82 : decode cX6_draft 82 = .ok (.lshr, 1) := by decide +kernel
theorem dX6_draft_83 : decode cX6_draft 83 = .ok (.ldc2_w 49, 3) := by decide +kernel
theorem dX6_draft_86 : decode cX6_draft 86 = .ok (.land, 1) := by decide +kernel
theorem dX6_draft_87 : decode cX6_draft 87 = .ok (.l2i, 1) := by decide +kernel
theorem dX6_draft_88 : decode cX6_draft 88 = .ok (.iastore, 1) := by decide +kernel
theorem dX6_draft_89 : decode cX6_draft 89 = .ok (.aload_n 0, 1) := by decide +kernel
theorem dX6_draft_90 : decode cX6_draft 90 = .ok (.getfield 7, 3) := by decide +kernel
theorem dX6_draft_93 : decode cX6_draft 93 = .ok (.iload 5, 2) := by decide +kernel
theorem dX6_draft_95 : decode cX6_draft 95 = .ok (.bipush 13, 2) := by decide +kernel
theorem dX6_draft_97 : decode cX6_draft 97 = .ok (.iadd, 1) := by decide +kernel
theorem dX6_draft_98 : decode cX6_draft 98 = .ok (.dup2, 1) := by decide +kernel
theorem dX6_draft_99 : decode cX6_draft 99 = .ok (.iaload, 1) := by decide +kernel
theorem dX6_draft_100 : decode cX6_draft 100 = .ok (.iconst 1, 1) := by decide +kernel
theorem dX6_draft_101 : decode cX6_draft 101 = .ok (.iadd, 1) := by decide +kernel
theorem dX6_draft_102 : decode cX6_draft 102 = .ok (.iastore, 1) := by decide +kernel
theorem dX6_draft_103 : decode cX6_draft 103 = .ok (.iinc 6 1, 3) := by decide +kernel
theorem dX6_draft_106 : decode cX6_draft 106 = .ok (.goto (-56), 3) := by decide +kernel
theorem dX6_draft_109 : decode cX6_draft 109 = .ok (.aload_n 0, 1) := by decide +kernel
theorem dX6_draft_110 : decode cX6_draft 110 = .ok (.getfield 7, 3) := by decide +kernel
theorem dX6_draft_113 : decode cX6_draft 113 = .ok (.iload 5, 2) := by decide +kernel
theorem dX6_draft_115 : decode cX6_draft 115 = .ok (.bipush 13, 2) := by decide +kernel
theorem dX6_draft_117 : decode cX6_draft 117 = .ok (.iadd, 1) := by decide +kernel
theorem dX6_draft_118 : decode cX6_draft 118 = .ok (.iaload, 1) := by decide +kernel
theorem dX6_draft_119 : decode cX6_draft 119 = .ok (.ireturn, 1) := by decide +kernel
theorem dX6_waiting_0 : decode cX6_waiting 0 = .ok (.aload_n 0, 1) := by decide +kernel
theorem dX6_waiting_1 : decode cX6_waiting 1 = .ok (.getfield 7, 3) := by decide +kernel
theorem dX6_waiting_4 : decode cX6_waiting 4 = .ok (.iload_n 1, 1) := by decide +kernel
theorem dX6_waiting_5 : decode cX6_waiting 5 = .ok (.invokestatic 20, 3) := by decide +kernel
theorem dX6_waiting_8 : decode cX6_waiting 8 = .ok (.iconst 0, 1) := by decide +kernel
theorem dX6_waiting_9 : decode cX6_waiting 9 = .ok (.iadd, 1) := by decide +kernel
theorem dX6_waiting_10 : decode cX6_waiting 10 = .ok (.iaload, 1) := by decide +kernel
theorem dX6_waiting_11 : decode cX6_waiting 11 = .ok (.aload_n 0, 1) := by decide +kernel
theorem dX6_waiting_12 : decode cX6_waiting 12 = .ok (.getfield 7, 3) := by decide +kernel
theorem dX6_waiting_15 : decode cX6_waiting 15 = .ok (.iload_n 1, 1) := by decide +kernel
theorem dX6_waiting_16 : decode cX6_waiting 16 = .ok (.invokestatic 20, 3) := by decide +kernel
theorem dX6_waiting_19 : decode cX6_waiting 19 = .ok (.iconst 1, 1) := by decide +kernel
theorem dX6_waiting_20 : decode cX6_waiting 20 = .ok (.iadd, 1) := by decide +kernel
theorem dX6_waiting_21 : decode cX6_waiting 21 = .ok (.iaload, 1) := by decide +kernel
theorem dX6_waiting_22 : decode cX6_waiting 22 = .ok (.isub, 1) := by decide +kernel
theorem dX6_waiting_23 : decode cX6_waiting 23 = .ok (.ireturn, 1) := by decide +kernel
theorem dX6_offer_0 : decode cX6_offer 0 = .ok (.iload_n 1, 1) := by decide +kernel
theorem dX6_offer_1 : decode cX6_offer 1 = .ok (.invokestatic 39, 3) := by decide +kernel
theorem dX6_offer_4 : decode cX6_offer 4 = .ok (.ifCond .ne 5, 3) := by decide +kernel
theorem dX6_offer_7 : decode cX6_offer 7 = .ok (.iconst (-1), 1) := by decide +kernel
theorem dX6_offer_8 : decode cX6_offer 8 = .ok (.ireturn, 1) := by decide +kernel
theorem dX6_offer_9 : decode cX6_offer 9 = .ok (.iload_n 1, 1) := by decide +kernel
theorem dX6_offer_10 : decode cX6_offer 10 = .ok (.invokestatic 20, 3) := by decide +kernel
theorem dX6_offer_13 : decode cX6_offer 13 = .ok (.istore_n 2, 1) := by decide +kernel
theorem dX6_offer_14 : decode cX6_offer 14 = .ok (.aload_n 0, 1) := by decide +kernel
theorem dX6_offer_15 : decode cX6_offer 15 = .ok (.getfield 7, 3) := by decide +kernel
theorem dX6_offer_18 : decode cX6_offer 18 = .ok (.iload_n 2, 1) := by decide +kernel
theorem dX6_offer_19 : decode cX6_offer 19 = .ok (.bipush 13, 2) := by decide +kernel
theorem dX6_offer_21 : decode cX6_offer 21 = .ok (.iadd, 1) := by decide +kernel
theorem dX6_offer_22 : decode cX6_offer 22 = .ok (.iaload, 1) := by decide +kernel
theorem dX6_offer_23 : decode cX6_offer 23 = .ok (.ifCond .ne 6, 3) := by decide +kernel
theorem dX6_offer_26 : decode cX6_offer 26 = .ok (.bipush (-2), 2) := by decide +kernel
theorem dX6_offer_28 : decode cX6_offer 28 = .ok (.ireturn, 1) := by decide +kernel
theorem dX6_offer_29 : decode cX6_offer 29 = .ok (.aload_n 0, 1) := by decide +kernel
theorem dX6_offer_30 : decode cX6_offer 30 = .ok (.iload_n 1, 1) := by decide +kernel
theorem dX6_offer_31 : decode cX6_offer 31 = .ok (.invokevirtual 51, 3) := by decide +kernel
theorem dX6_offer_34 : decode cX6_offer 34 = .ok (.bipush 16, 2) := by decide +kernel
theorem dX6_offer_36 : decode cX6_offer 36 = .ok (.if_icmp .eq 16, 3) := by decide +kernel
theorem dX6_offer_39 : decode cX6_offer 39 = .ok (.aload_n 0, 1) := by decide +kernel
theorem dX6_offer_40 : decode cX6_offer 40 = .ok (.getfield 7, 3) := by decide +kernel
theorem dX6_offer_43 : decode cX6_offer 43 = .ok (.iload_n 2, 1) := by decide +kernel
theorem dX6_offer_44 : decode cX6_offer 44 = .ok (.iconst 0, 1) := by decide +kernel
theorem dX6_offer_45 : decode cX6_offer 45 = .ok (.iadd, 1) := by decide +kernel
theorem dX6_offer_46 : decode cX6_offer 46 = .ok (.iaload, 1) := by decide +kernel
theorem dX6_offer_47 : decode cX6_offer 47 = .ok (.bipush 60, 2) := by decide +kernel
theorem dX6_offer_49 : decode cX6_offer 49 = .ok (.if_icmp .ne 6, 3) := by decide +kernel
theorem dX6_offer_52 : decode cX6_offer 52 = .ok (.bipush (-3), 2) := by decide +kernel
theorem dX6_offer_54 : decode cX6_offer 54 = .ok (.ireturn, 1) := by decide +kernel
theorem dX6_offer_55 : decode cX6_offer 55 = .ok (.iload_n 1, 1) := by decide +kernel
theorem dX6_offer_56 : decode cX6_offer 56 = .ok (.aload_n 0, 1) := by decide +kernel
theorem dX6_offer_57 : decode cX6_offer 57 = .ok (.getfield 7, 3) := by decide +kernel
theorem dX6_offer_60 : decode cX6_offer 60 = .ok (.iload_n 2, 1) := by decide +kernel
theorem dX6_offer_61 : decode cX6_offer 61 = .ok (.iconst 0, 1) := by decide +kernel
theorem dX6_offer_62 : decode cX6_offer 62 = .ok (.iadd, 1) := by decide +kernel
theorem dX6_offer_63 : decode cX6_offer 63 = .ok (.iaload, 1) := by decide +kernel
theorem dX6_offer_64 : decode cX6_offer 64 = .ok (.invokestatic 54, 3) := by decide +kernel
theorem dX6_offer_67 : decode cX6_offer 67 = .ok (.istore_n 3, 1) := by decide +kernel
theorem dX6_offer_68 : decode cX6_offer 68 = .ok (.aload_n 0, 1) := by decide +kernel
theorem dX6_offer_69 : decode cX6_offer 69 = .ok (.getfield 7, 3) := by decide +kernel
theorem dX6_offer_72 : decode cX6_offer 72 = .ok (.iload_n 3, 1) := by decide +kernel
theorem dX6_offer_73 : decode cX6_offer 73 = .ok (.aload_n 0, 1) := by decide +kernel
theorem dX6_offer_74 : decode cX6_offer 74 = .ok (.getfield 7, 3) := by decide +kernel
theorem dX6_offer_77 : decode cX6_offer 77 = .ok (.iload_n 2, 1) := by decide +kernel
theorem dX6_offer_78 : decode cX6_offer 78 = .ok (.bipush 13, 2) := by decide +kernel
theorem dX6_offer_80 : decode cX6_offer 80 = .ok (.iadd, 1) := by decide +kernel
theorem dX6_offer_81 : decode cX6_offer 81 = .ok (.iaload, 1) := by decide +kernel
theorem dX6_offer_82 : decode cX6_offer 82 = .ok (.iastore, 1) := by decide +kernel
theorem dX6_offer_83 : decode cX6_offer 83 = .ok (.iconst 0, 1) := by decide +kernel
theorem dX6_offer_84 : decode cX6_offer 84 = .ok (.istore 4, 2) := by decide +kernel
theorem dX6_offer_86 : decode cX6_offer 86 = .ok (.iload 4, 2) := by decide +kernel
theorem dX6_offer_88 : decode cX6_offer 88 = .ok (.aload_n 0, 1) := by decide +kernel
theorem dX6_offer_89 : decode cX6_offer 89 = .ok (.getfield 7, 3) := by decide +kernel
theorem dX6_offer_92 : decode cX6_offer 92 = .ok (.iload_n 3, 1) := by decide +kernel
theorem dX6_offer_93 : decode cX6_offer 93 = .ok (.iaload, 1) := by decide +kernel
theorem dX6_offer_94 : decode cX6_offer 94 = .ok (.if_icmp .ge 32, 3) := by decide +kernel
theorem dX6_offer_97 : decode cX6_offer 97 = .ok (.aload_n 0, 1) := by decide +kernel
theorem dX6_offer_98 : decode cX6_offer 98 = .ok (.getfield 7, 3) := by decide +kernel
theorem dX6_offer_101 : decode cX6_offer 101 = .ok (.iload_n 3, 1) := by decide +kernel
theorem dX6_offer_102 : decode cX6_offer 102 = .ok (.iconst 1, 1) := by decide +kernel
theorem dX6_offer_103 : decode cX6_offer 103 = .ok (.iadd, 1) := by decide +kernel
theorem dX6_offer_104 : decode cX6_offer 104 = .ok (.iload 4, 2) := by decide +kernel
theorem dX6_offer_106 : decode cX6_offer 106 = .ok (.iadd, 1) := by decide +kernel
theorem dX6_offer_107 : decode cX6_offer 107 = .ok (.aload_n 0, 1) := by decide +kernel
theorem dX6_offer_108 : decode cX6_offer 108 = .ok (.getfield 7, 3) := by decide +kernel
theorem dX6_offer_111 : decode cX6_offer 111 = .ok (.iload_n 2, 1) := by decide +kernel
theorem dX6_offer_112 : decode cX6_offer 112 = .ok (.bipush 20, 2) := by decide +kernel
theorem dX6_offer_114 : decode cX6_offer 114 = .ok (.iadd, 1) := by decide +kernel
theorem dX6_offer_115 : decode cX6_offer 115 = .ok (.iload 4, 2) := by decide +kernel
theorem dX6_offer_117 : decode cX6_offer 117 = .ok (.iadd, 1) := by decide +kernel
theorem dX6_offer_118 : decode cX6_offer 118 = .ok (.iaload, 1) := by decide +kernel
theorem dX6_offer_119 : decode cX6_offer 119 = .ok (.iastore, 1) := by decide +kernel
theorem dX6_offer_120 : decode cX6_offer 120 = .ok (.iinc 4 1, 3) := by decide +kernel
theorem dX6_offer_123 : decode cX6_offer 123 = .ok (.goto (-37), 3) := by decide +kernel
theorem dX6_offer_126 : decode cX6_offer 126 = .ok (.aload_n 0, 1) := by decide +kernel
theorem dX6_offer_127 : decode cX6_offer 127 = .ok (.getfield 7, 3) := by decide +kernel
theorem dX6_offer_130 : decode cX6_offer 130 = .ok (.iload_n 2, 1) := by decide +kernel
theorem dX6_offer_131 : decode cX6_offer 131 = .ok (.iconst 0, 1) := by decide +kernel
theorem dX6_offer_132 : decode cX6_offer 132 = .ok (.iadd, 1) := by decide +kernel
theorem dX6_offer_133 : decode cX6_offer 133 = .ok (.dup2, 1) := by decide +kernel
theorem dX6_offer_134 : decode cX6_offer 134 = .ok (.iaload, 1) := by decide +kernel
theorem dX6_offer_135 : decode cX6_offer 135 = .ok (.iconst 1, 1) := by decide +kernel
theorem dX6_offer_136 : decode cX6_offer 136 = .ok (.iadd, 1) := by decide +kernel
theorem dX6_offer_137 : decode cX6_offer 137 = .ok (.iastore, 1) := by decide +kernel
theorem dX6_offer_138 : decode cX6_offer 138 = .ok (.aload_n 0, 1) := by decide +kernel
theorem dX6_offer_139 : decode cX6_offer 139 = .ok (.getfield 7, 3) := by decide +kernel
theorem dX6_offer_142 : decode cX6_offer 142 = .ok (.iload_n 2, 1) := by decide +kernel
theorem dX6_offer_143 : decode cX6_offer 143 = .ok (.bipush 13, 2) := by decide +kernel
theorem dX6_offer_145 : decode cX6_offer 145 = .ok (.iadd, 1) := by decide +kernel
theorem dX6_offer_146 : decode cX6_offer 146 = .ok (.iconst 0, 1) := by decide +kernel
theorem dX6_offer_147 : decode cX6_offer 147 = .ok (.iastore, 1) := by decide +kernel
theorem dX6_offer_148 : decode cX6_offer 148 = .ok (.aload_n 0, 1) := by decide +kernel
theorem dX6_offer_149 : decode cX6_offer 149 = .ok (.iload_n 1, 1) := by decide +kernel
theorem dX6_offer_150 : decode cX6_offer 150 = .ok (.invokevirtual 51, 3) := by decide +kernel
theorem dX6_offer_153 : decode cX6_offer 153 = .ok (.ireturn, 1) := by decide +kernel
theorem dX6_check_0 : decode cX6_check 0 = .ok (.iload_n 1, 1) := by decide +kernel
theorem dX6_check_1 : decode cX6_check 1 = .ok (.invokestatic 39, 3) := by decide +kernel
theorem dX6_check_4 : decode cX6_check 4 = .ok (.ifCond .eq 13, 3) := by decide +kernel
theorem dX6_check_7 : decode cX6_check 7 = .ok (.iload_n 2, 1) := by decide +kernel
theorem dX6_check_8 : decode cX6_check 8 = .ok (.i2l, 1) := by decide +kernel
theorem dX6_check_9 : decode cX6_check 9 = .ok (.lconst 0, 1) := by decide +kernel
theorem dX6_check_10 : decode cX6_check 10 = .ok (.lconst 1, 1) := by decide +kernel
theorem dX6_check_11 : decode cX6_check 11 = .ok (.invokestatic 45, 3) := by decide +kernel
theorem dX6_check_14 : decode cX6_check 14 = .ok (.ifCond .ne 7, 3) := by decide +kernel
theorem dX6_check_17 : decode cX6_check 17 = .ok (.ldc2_w 58, 3) := by decide +kernel
theorem dX6_check_20 : decode cX6_check 20 = .ok (.lreturn, 1) := by decide +kernel
theorem dX6_check_21 : decode cX6_check 21 = .ok (.iload_n 1, 1) := by decide +kernel
theorem dX6_check_22 : decode cX6_check 22 = .ok (.invokestatic 20, 3) := by decide +kernel
theorem dX6_check_25 : decode cX6_check 25 = .ok (.istore_n 3, 1) := by decide +kernel
theorem dX6_check_26 : decode cX6_check 26 = .ok (.aload_n 0, 1) := by decide +kernel
theorem dX6_check_27 : decode cX6_check 27 = .ok (.iload_n 2, 1) := by decide +kernel
theorem dX6_check_28 : decode cX6_check 28 = .ok (.ifCond .ne 7, 3) := by decide +kernel
theorem dX6_check_31 : decode cX6_check 31 = .ok (.iconst 1, 1) := by decide +kernel
theorem dX6_check_32 : decode cX6_check 32 = .ok (.goto 4, 3) := by decide +kernel
theorem dX6_check_35 : decode cX6_check 35 = .ok (.iconst 0, 1) := by decide +kernel
theorem dX6_check_36 : decode cX6_check 36 = .ok (.invokevirtual 60, 3) := by decide +kernel
theorem dX6_check_39 : decode cX6_check 39 = .ok (.iconst 0, 1) := by decide +kernel
theorem dX6_check_40 : decode cX6_check 40 = .ok (.istore 4, 2) := by decide +kernel
theorem dX6_check_42 : decode cX6_check 42 = .ok (.iload 4, 2) := by decide +kernel
theorem dX6_check_44 : decode cX6_check 44 = .ok (.aload_n 0, 1) := by decide +kernel
theorem dX6_check_45 : decode cX6_check 45 = .ok (.getfield 7, 3) := by decide +kernel
theorem dX6_check_48 : decode cX6_check 48 = .ok (.iload_n 3, 1) := by decide +kernel
theorem dX6_check_49 : decode cX6_check 49 = .ok (.bipush 13, 2) := by decide +kernel
theorem dX6_check_51 : decode cX6_check 51 = .ok (.iadd, 1) := by decide +kernel
theorem dX6_check_52 : decode cX6_check 52 = .ok (.iaload, 1) := by decide +kernel
theorem dX6_check_53 : decode cX6_check 53 = .ok (.if_icmp .ge 34, 3) := by decide +kernel
theorem dX6_check_56 : decode cX6_check 56 = .ok (.aload_n 0, 1) := by decide +kernel
theorem dX6_check_57 : decode cX6_check 57 = .ok (.aload_n 0, 1) := by decide +kernel
theorem dX6_check_58 : decode cX6_check 58 = .ok (.getfield 7, 3) := by decide +kernel
theorem dX6_check_61 : decode cX6_check 61 = .ok (.iload_n 3, 1) := by decide +kernel
theorem dX6_check_62 : decode cX6_check 62 = .ok (.bipush 20, 2) := by decide +kernel
theorem dX6_check_64 : decode cX6_check 64 = .ok (.iadd, 1) := by decide +kernel
theorem dX6_check_65 : decode cX6_check 65 = .ok (.iload 4, 2) := by decide +kernel
theorem dX6_check_67 : decode cX6_check 67 = .ok (.iadd, 1) := by decide +kernel
theorem dX6_check_68 : decode cX6_check 68 = .ok (.iaload, 1) := by decide +kernel
theorem dX6_check_69 : decode cX6_check 69 = .ok (.iload_n 2, 1) := by decide +kernel
theorem dX6_check_70 : decode cX6_check 70 = .ok (.ifCond .ne 7, 3) := by decide +kernel
theorem dX6_check_73 : decode cX6_check 73 = .ok (.iconst 1, 1) := by decide +kernel
theorem dX6_check_74 : decode cX6_check 74 = .ok (.goto 4, 3) := by decide +kernel
theorem dX6_check_77 : decode cX6_check 77 = .ok (.iconst 0, 1) := by decide +kernel
theorem dX6_check_78 : decode cX6_check 78 = .ok (.invokevirtual 64, 3) := by decide +kernel
theorem dX6_check_81 : decode cX6_check 81 = .ok (.iinc 4 1, 3) := by decide +kernel
theorem dX6_check_84 : decode cX6_check 84 = .ok (.goto (-42), 3) := by decide +kernel
theorem dX6_check_87 : decode cX6_check 87 = .ok (.aload_n 0, 1) := by decide +kernel
theorem dX6_check_88 : decode cX6_check 88 = .ok (.iload_n 2, 1) := by decide +kernel
theorem dX6_check_89 : decode cX6_check 89 = .ok (.ifCond .ne 7, 3) := by decide +kernel
theorem dX6_check_92 : decode cX6_check 92 = .ok (.iconst 1, 1) := by decide +kernel
theorem dX6_check_93 : decode cX6_check 93 = .ok (.goto 4, 3) := by decide +kernel
theorem dX6_check_96 : decode cX6_check 96 = .ok (.iconst 0, 1) := by decide +kernel
theorem dX6_check_97 : decode cX6_check 97 = .ok (.invokevirtual 68, 3) := by decide +kernel
theorem dX6_check_100 : decode cX6_check 100 = .ok (.lreturn, 1) := by decide +kernel
theorem dX6_set_0 : decode cX6_set 0 = .ok (.iload_n 1, 1) := by decide +kernel
theorem dX6_set_1 : decode cX6_set 1 = .ok (.ifCond .ne 15, 3) := by decide +kernel
