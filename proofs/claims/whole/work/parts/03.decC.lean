theorem dX0_init_0 : decode cX0_init 0 = .ok (.aload_n 0, 1) := by decide +kernel
theorem dX0_init_1 : decode cX0_init 1 = .ok (.invokespecial 3, 3) := by decide +kernel
theorem dX0_init_4 : decode cX0_init 4 = .ok (.aload_n 0, 1) := by decide +kernel
theorem dX0_init_5 : decode cX0_init 5 = .ok (.bipush 7, 2) := by decide +kernel
theorem dX0_init_7 : decode cX0_init 7 = .ok (.putfield 9, 3) := by decide +kernel
theorem dX0_init_10 : decode cX0_init 10 = .ok (.aload_n 0, 1) := by decide +kernel
theorem dX0_init_11 : decode cX0_init 11 = .ok (.bipush 100, 2) := by decide +kernel
theorem dX0_init_13 : decode cX0_init 13 = .ok (.putfield 15, 3) := by decide +kernel
theorem dX0_init_16 : decode cX0_init 16 = .ok (.aload_n 0, 1) := by decide +kernel
theorem dX0_init_17 : decode cX0_init 17 = .ok (.bipush 80, 2) := by decide +kernel
theorem dX0_init_19 : decode cX0_init 19 = .ok (.putfield 18, 3) := by decide +kernel
theorem dX0_init_22 : decode cX0_init 22 = .ok (.aload_n 0, 1) := by decide +kernel
theorem dX0_init_23 : decode cX0_init 23 = .ok (.bipush 7, 2) := by decide +kernel
theorem dX0_init_25 : decode cX0_init 25 = .ok (.newarray .int, 2) := by decide +kernel
theorem dX0_init_27 : decode cX0_init 27 = .ok (.dup, 1) := by decide +kernel
theorem dX0_init_28 : decode cX0_init 28 = .ok (.iconst 0, 1) := by decide +kernel
theorem dX0_init_29 : decode cX0_init 29 = .ok (.bipush 8, 2) := by decide +kernel
theorem dX0_init_31 : decode cX0_init 31 = .ok (.iastore, 1) := by decide +kernel
theorem dX0_init_32 : decode cX0_init 32 = .ok (.dup, 1) := by decide +kernel
theorem dX0_init_33 : decode cX0_init 33 = .ok (.iconst 1, 1) := by decide +kernel
theorem dX0_init_34 : decode cX0_init 34 = .ok (.iconst 2, 1) := by decide +kernel
theorem dX0_init_35 : decode cX0_init 35 = .ok (.iastore, 1) := by decide +kernel
theorem dX0_init_36 : decode cX0_init 36 = .ok (.dup, 1) := by decide +kernel
theorem dX0_init_37 : decode cX0_init 37 = .ok (.iconst 2, 1) := by decide +kernel
theorem dX0_init_38 : decode cX0_init 38 = .ok (.iconst 0, 1) := by decide +kernel
theorem dX0_init_39 : decode cX0_init 39 = .ok (.iastore, 1) := by decide +kernel
theorem dX0_init_40 : decode cX0_init 40 = .ok (.dup, 1) := by decide +kernel
theorem dX0_init_41 : decode cX0_init 41 = .ok (.iconst 3, 1) := by decide +kernel
theorem dX0_init_42 : decode cX0_init 42 = .ok (.bipush 6, 2) := by decide +kernel
theorem dX0_init_44 : decode cX0_init 44 = .ok (.iastore, 1) := by decide +kernel
theorem dX0_init_45 : decode cX0_init 45 = .ok (.dup, 1) := by decide +kernel
theorem dX0_init_46 : decode cX0_init 46 = .ok (.iconst 4, 1) := by decide +kernel
theorem dX0_init_47 : decode cX0_init 47 = .ok (.iconst 0, 1) := by decide +kernel
theorem dX0_init_48 : decode cX0_init 48 = .ok (.iastore, 1) := by decide +kernel
theorem dX0_init_49 : decode cX0_init 49 = .ok (.dup, 1) := by decide +kernel
theorem dX0_init_50 : decode cX0_init 50 = .ok (.iconst 5, 1) := by decide +kernel
theorem dX0_init_51 : decode cX0_init 51 = .ok (.iconst 0, 1) := by decide +kernel
theorem dX0_init_52 : decode cX0_init 52 = .ok (.iastore, 1) := by decide +kernel
theorem dX0_init_53 : decode cX0_init 53 = .ok (.dup, 1) := by decide +kernel
theorem dX0_init_54 : decode cX0_init 54 = .ok (.bipush 6, 2) := by decide +kernel
theorem dX0_init_56 : decode cX0_init 56 = .ok (.iconst 3, 1) := by decide +kernel
theorem dX0_init_57 : decode cX0_init 57 = .ok (.iastore, 1) := by decide +kernel
theorem dX0_init_58 : decode cX0_init 58 = .ok (.putfield 21, 3) := by decide +kernel
theorem dX0_init_61 : decode cX0_init 61 = .ok (.aload_n 0, 1) := by decide +kernel
theorem dX0_init_62 : decode cX0_init 62 = .ok (.bipush 20, 2) := by decide +kernel
theorem dX0_init_64 : decode cX0_init 64 = .ok (.newarray .int, 2) := by decide +kernel
theorem dX0_init_66 : decode cX0_init 66 = .ok (.putfield 25, 3) := by decide +kernel
theorem dX0_init_69 : decode cX0_init 69 = .ok (.aload_n 0, 1) := by decide +kernel
theorem dX0_init_70 : decode cX0_init 70 = .ok (.getfield 25, 3) := by decide +kernel
theorem dX0_init_73 : decode cX0_init 73 = .ok (.bipush 100, 2) := by decide +kernel
theorem dX0_init_75 : decode cX0_init 75 = .ok (.invokestatic 28, 3) := by decide +kernel
theorem dX0_init_78 : decode cX0_init 78 = .ok (.return_, 1) := by decide +kernel
theorem dX0_copy_0 : decode cX0_copy 0 = .ok (.aload_n 0, 1) := by decide +kernel
theorem dX0_copy_1 : decode cX0_copy 1 = .ok (.aload_n 1, 1) := by decide +kernel
theorem dX0_copy_2 : decode cX0_copy 2 = .ok (.getfield 9, 3) := by decide +kernel
theorem dX0_copy_5 : decode cX0_copy 5 = .ok (.putfield 9, 3) := by decide +kernel
theorem dX0_copy_8 : decode cX0_copy 8 = .ok (.aload_n 0, 1) := by decide +kernel
theorem dX0_copy_9 : decode cX0_copy 9 = .ok (.aload_n 1, 1) := by decide +kernel
theorem dX0_copy_10 : decode cX0_copy 10 = .ok (.getfield 15, 3) := by decide +kernel
theorem dX0_copy_13 : decode cX0_copy 13 = .ok (.putfield 15, 3) := by decide +kernel
theorem dX0_copy_16 : decode cX0_copy 16 = .ok (.aload_n 0, 1) := by decide +kernel
theorem dX0_copy_17 : decode cX0_copy 17 = .ok (.aload_n 1, 1) := by decide +kernel
theorem dX0_copy_18 : decode cX0_copy 18 = .ok (.getfield 18, 3) := by decide +kernel
theorem dX0_copy_21 : decode cX0_copy 21 = .ok (.putfield 18, 3) := by decide +kernel
theorem dX0_copy_24 : decode cX0_copy 24 = .ok (.aload_n 1, 1) := by decide +kernel
theorem dX0_copy_25 : decode cX0_copy 25 = .ok (.getfield 21, 3) := by decide +kernel
theorem dX0_copy_28 : decode cX0_copy 28 = .ok (.iconst 0, 1) := by decide +kernel
theorem dX0_copy_29 : decode cX0_copy 29 = .ok (.aload_n 0, 1) := by decide +kernel
theorem dX0_copy_30 : decode cX0_copy 30 = .ok (.getfield 21, 3) := by decide +kernel
theorem dX0_copy_33 : decode cX0_copy 33 = .ok (.iconst 0, 1) := by decide +kernel
theorem dX0_copy_34 : decode cX0_copy 34 = .ok (.aload_n 0, 1) := by decide +kernel
theorem dX0_copy_35 : decode cX0_copy 35 = .ok (.getfield 21, 3) := by decide +kernel
theorem dX0_copy_38 : decode cX0_copy 38 = .ok (.arraylength, 1) := by decide +kernel
theorem dX0_copy_39 : decode cX0_copy 39 = .ok (.invokestatic 33, 3) := by decide +kernel
theorem dX0_copy_42 : decode cX0_copy 42 = .ok (.aload_n 1, 1) := by decide +kernel
theorem dX0_copy_43 : decode cX0_copy 43 = .ok (.getfield 25, 3) := by decide +kernel
theorem dX0_copy_46 : decode cX0_copy 46 = .ok (.iconst 0, 1) := by decide +kernel
theorem dX0_copy_47 : decode cX0_copy 47 = .ok (.aload_n 0, 1) := by decide +kernel
theorem dX0_copy_48 : decode cX0_copy 48 = .ok (.getfield 25, 3) := by decide +kernel
theorem dX0_copy_51 : decode cX0_copy 51 = .ok (.iconst 0, 1) := by decide +kernel
theorem dX0_copy_52 : decode cX0_copy 52 = .ok (.aload_n 0, 1) := by decide +kernel
theorem dX0_copy_53 : decode cX0_copy 53 = .ok (.getfield 25, 3) := by decide +kernel
theorem dX0_copy_56 : decode cX0_copy 56 = .ok (.arraylength, 1) := by decide +kernel
theorem dX0_copy_57 : decode cX0_copy 57 = .ok (.invokestatic 33, 3) := by decide +kernel
theorem dX0_copy_60 : decode cX0_copy 60 = .ok (.return_, 1) := by decide +kernel
theorem dX0_openAll_0 : decode cX0_openAll 0 = .ok (.aload_n 0, 1) := by decide +kernel
theorem dX0_openAll_1 : decode cX0_openAll 1 = .ok (.getfield 25, 3) := by decide +kernel
theorem dX0_openAll_4 : decode cX0_openAll 4 = .ok (.bipush 100, 2) := by decide +kernel
theorem dX0_openAll_6 : decode cX0_openAll 6 = .ok (.invokestatic 28, 3) := by decide +kernel
theorem dX0_openAll_9 : decode cX0_openAll 9 = .ok (.return_, 1) := by decide +kernel
theorem dX0_wallCount_0 : decode cX0_wallCount 0 = .ok (.iconst 0, 1) := by decide +kernel
theorem dX0_wallCount_1 : decode cX0_wallCount 1 = .ok (.istore_n 1, 1) := by decide +kernel
theorem dX0_wallCount_2 : decode cX0_wallCount 2 = .ok (.iconst 0, 1) := by decide +kernel
theorem dX0_wallCount_3 : decode cX0_wallCount 3 = .ok (.istore_n 2, 1) := by decide +kernel
theorem dX0_wallCount_4 : decode cX0_wallCount 4 = .ok (.iload_n 2, 1) := by decide +kernel
theorem dX0_wallCount_5 : decode cX0_wallCount 5 = .ok (.aload_n 0, 1) := by decide +kernel
theorem dX0_wallCount_6 : decode cX0_wallCount 6 = .ok (.getfield 9, 3) := by decide +kernel
theorem dX0_wallCount_9 : decode cX0_wallCount 9 = .ok (.if_icmp .ge 28, 3) := by decide +kernel
theorem dX0_wallCount_12 : decode cX0_wallCount 12 = .ok (.iload_n 1, 1) := by decide +kernel
theorem dX0_wallCount_13 : decode cX0_wallCount 13 = .ok (.aload_n 0, 1) := by decide +kernel
theorem dX0_wallCount_14 : decode cX0_wallCount 14 = .ok (.getfield 25, 3) := by decide +kernel
theorem dX0_wallCount_17 : decode cX0_wallCount 17 = .ok (.iload_n 2, 1) := by decide +kernel
theorem dX0_wallCount_18 : decode cX0_wallCount 18 = .ok (.iaload, 1) := by decide +kernel
theorem dX0_wallCount_19 : decode cX0_wallCount 19 = .ok (.bipush 100, 2) := by decide +kernel
theorem dX0_wallCount_21 : decode cX0_wallCount 21 = .ok (.if_icmp .ge 7, 3) := by decide +kernel
theorem dX0_wallCount_24 : decode cX0_wallCount 24 = .ok (.iconst 1, 1) := by decide +kernel
theorem dX0_wallCount_25 : decode cX0_wallCount 25 = .ok (.goto 4, 3) := by decide +kernel
theorem dX0_wallCount_28 : decode cX0_wallCount 28 = .ok (.iconst 0, 1) := by decide +kernel
theorem dX0_wallCount_29 : decode cX0_wallCount 29 = .ok (.iadd, 1) := by decide +kernel
theorem dX0_wallCount_30 : decode cX0_wallCount 30 = .ok (.istore_n 1, 1) := by decide +kernel
theorem dX0_wallCount_31 : decode cX0_wallCount 31 = .ok (.iinc 2 1, 3) := by decide +kernel
theorem dX0_wallCount_34 : decode cX0_wallCount 34 = .ok (.goto (-30), 3) := by decide +kernel
theorem dX0_wallCount_37 : decode cX0_wallCount 37 = .ok (.iload_n 1, 1) := by decide +kernel
theorem dX0_wallCount_38 : decode cX0_wallCount 38 = .ok (.ireturn, 1) := by decide +kernel
theorem dX1_init_0 : decode cX1_init 0 = .ok (.aload_n 0, 1) := by decide +kernel
theorem dX1_init_1 : decode cX1_init 1 = .ok (.invokespecial 3, 3) := by decide +kernel
theorem dX1_init_4 : decode cX1_init 4 = .ok (.aload_n 0, 1) := by decide +kernel
theorem dX1_init_5 : decode cX1_init 5 = .ok (.bipush 20, 2) := by decide +kernel
theorem dX1_init_7 : decode cX1_init 7 = .ok (.newarray .int, 2) := by decide +kernel
theorem dX1_init_9 : decode cX1_init 9 = .ok (.putfield 9, 3) := by decide +kernel
theorem dX1_init_12 : decode cX1_init 12 = .ok (.aload_n 0, 1) := by decide +kernel
theorem dX1_init_13 : decode cX1_init 13 = .ok (.bipush 20, 2) := by decide +kernel
theorem dX1_init_15 : decode cX1_init 15 = .ok (.newarray .int, 2) := by decide +kernel
theorem dX1_init_17 : decode cX1_init 17 = .ok (.putfield 15, 3) := by decide +kernel
theorem dX1_init_20 : decode cX1_init 20 = .ok (.aload_n 0, 1) := by decide +kernel
theorem dX1_init_21 : decode cX1_init 21 = .ok (.bipush 20, 2) := by decide +kernel
theorem dX1_init_23 : decode cX1_init 23 = .ok (.newarray .int, 2) := by decide +kernel
theorem dX1_init_25 : decode cX1_init 25 = .ok (.putfield 18, 3) := by decide +kernel
theorem dX1_init_28 : decode cX1_init 28 = .ok (.aload_n 0, 1) := by decide +kernel
theorem dX1_init_29 : decode cX1_init 29 = .ok (.bipush 20, 2) := by decide +kernel
theorem dX1_init_31 : decode cX1_init 31 = .ok (.newarray .int, 2) := by decide +kernel
theorem dX1_init_33 : decode cX1_init 33 = .ok (.putfield 21, 3) := by decide +kernel
theorem dX1_init_36 : decode cX1_init 36 = .ok (.aload_n 0, 1) := by decide +kernel
theorem dX1_init_37 : decode cX1_init 37 = .ok (.iconst 0, 1) := by decide +kernel
theorem dX1_init_38 : decode cX1_init 38 = .ok (.putfield 24, 3) := by decide +kernel
theorem dX1_init_41 : decode cX1_init 41 = .ok (.return_, 1) := by decide +kernel
theorem dX1_add_0 : decode cX1_add 0 = .ok (.aload_n 0, 1) := by decide +kernel
theorem dX1_add_1 : decode cX1_add 1 = .ok (.getfield 24, 3) := by decide +kernel
theorem dX1_add_4 : decode cX1_add 4 = .ok (.bipush 20, 2) := by decide +kernel
theorem dX1_add_6 : decode cX1_add 6 = .ok (.if_icmp .lt 5, 3) := by decide +kernel
theorem dX1_add_9 : decode cX1_add 9 = .ok (.iconst 0, 1) := by decide +kernel
theorem dX1_add_10 : decode cX1_add 10 = .ok (.ireturn, 1) := by decide +kernel
theorem dX1_add_11 : decode cX1_add 11 = .ok (.aload_n 0, 1) := by decide +kernel
theorem dX1_add_12 : decode cX1_add 12 = .ok (.getfield 9, 3) := by decide +kernel
theorem dX1_add_15 : decode cX1_add 15 = .ok (.aload_n 0, 1) := by decide +kernel
theorem dX1_add_16 : decode cX1_add 16 = .ok (.getfield 24, 3) := by decide +kernel
theorem dX1_add_19 : decode cX1_add 19 = .ok (.iload_n 1, 1) := by decide +kernel
theorem dX1_add_20 : decode cX1_add 20 = .ok (.iastore, 1) := by decide +kernel
theorem dX1_add_21 : decode cX1_add 21 = .ok (.aload_n 0, 1) := by decide +kernel
theorem dX1_add_22 : decode cX1_add 22 = .ok (.getfield 15, 3) := by decide +kernel
theorem dX1_add_25 : decode cX1_add 25 = .ok (.aload_n 0, 1) := by decide +kernel
theorem dX1_add_26 : decode cX1_add 26 = .ok (.getfield 24, 3) := by decide +kernel
theorem dX1_add_29 : decode cX1_add 29 = .ok (.iload_n 2, 1) := by decide +kernel
theorem dX1_add_30 : decode cX1_add 30 = .ok (.iastore, 1) := by decide +kernel
theorem dX1_add_31 : decode cX1_add 31 = .ok (.aload_n 0, 1) := by decide +kernel
theorem dX1_add_32 : decode cX1_add 32 = .ok (.getfield 18, 3) := by decide +kernel
theorem dX1_add_35 : decode cX1_add 35 = .ok (.aload_n 0, 1) := by decide +kernel
theorem dX1_add_36 : decode cX1_add 36 = .ok (.getfield 24, 3) := by decide +kernel
theorem dX1_add_39 : decode cX1_add 39 = .ok (.iload_n 3, 1) := by decide +kernel
theorem dX1_add_40 : decode cX1_add 40 = .ok (.iastore, 1) := by decide +kernel
theorem dX1_add_41 : decode cX1_add 41 = .ok (.aload_n 0, 1) := by decide +kernel
theorem dX1_add_42 : decode cX1_add 42 = .ok (.getfield 21, 3) := by decide +kernel
theorem dX1_add_45 : decode cX1_add 45 = .ok (.aload_n 0, 1) := by decide +kernel
theorem dX1_add_46 : decode cX1_add 46 = .ok (.getfield 24, 3) := by decide +kernel
theorem dX1_add_49 : decode cX1_add 49 = .ok (.iload 4, 2) := by decide +kernel
theorem dX1_add_51 : decode cX1_add 51 = .ok (.iastore, 1) := by decide +kernel
theorem dX1_add_52 : decode cX1_add 52 = .ok (.aload_n 0, 1) := by decide +kernel
theorem dX1_add_53 : decode cX1_add 53 = .ok (.dup, 1) := by decide +kernel
theorem dX1_add_54 : decode cX1_add 54 = .ok (.getfield 24, 3) := by decide +kernel
theorem dX1_add_57 : decode cX1_add 57 = .ok (.iconst 1, 1) := by decide +kernel
theorem dX1_add_58 : decode cX1_add 58 = .ok (.iadd, 1) := by decide +kernel
theorem dX1_add_59 : decode cX1_add 59 = .ok (.putfield 24, 3) := by decide +kernel
theorem dX1_add_62 : decode cX1_add 62 = .ok (.iconst 1, 1) := by decide +kernel
theorem dX1_add_63 : decode cX1_add 63 = .ok (.ireturn, 1) := by decide +kernel
theorem dX1_offByLaw_0 : decode cX1_offByLaw 0 = .ok (.aload_n 2, 1) := by decide +kernel
theorem dX1_offByLaw_1 : decode cX1_offByLaw 1 = .ok (.aload_n 0, 1) := by decide +kernel
theorem dX1_offByLaw_2 : decode cX1_offByLaw 2 = .ok (.getfield 9, 3) := by decide +kernel
theorem dX1_offByLaw_5 : decode cX1_offByLaw 5 = .ok (.iload_n 1, 1) := by decide +kernel
theorem dX1_offByLaw_6 : decode cX1_offByLaw 6 = .ok (.iaload, 1) := by decide +kernel
theorem dX1_offByLaw_7 : decode cX1_offByLaw 7 = .ok (.aload_n 0, 1) := by decide +kernel
theorem dX1_offByLaw_8 : decode cX1_offByLaw 8 = .ok (.getfield 15, 3) := by decide +kernel
theorem dX1_offByLaw_11 : decode cX1_offByLaw 11 = .ok (.iload_n 1, 1) := by decide +kernel
theorem dX1_offByLaw_12 : decode cX1_offByLaw 12 = .ok (.iaload, 1) := by decide +kernel
theorem dX1_offByLaw_13 : decode cX1_offByLaw 13 = .ok (.aload_n 0, 1) := by decide +kernel
theorem dX1_offByLaw_14 : decode cX1_offByLaw 14 = .ok (.getfield 18, 3) := by decide +kernel
theorem dX1_offByLaw_17 : decode cX1_offByLaw 17 = .ok (.iload_n 1, 1) := by decide +kernel
theorem dX1_offByLaw_18 : decode cX1_offByLaw 18 = .ok (.iaload, 1) := by decide +kernel
theorem dX1_offByLaw_19 : decode cX1_offByLaw 19 = .ok (.aload_n 3, 1) := by decide +kernel
theorem dX1_offByLaw_20 : decode cX1_offByLaw 20 = .ok (.getfield 28, 3) := by decide +kernel
theorem dX1_offByLaw_23 : decode cX1_offByLaw 23 = .ok (.iconst 2, 1) := by decide +kernel
theorem dX1_offByLaw_24 : decode cX1_offByLaw 24 = .ok (.iaload, 1) := by decide +kernel
theorem dX1_offByLaw_25 : decode cX1_offByLaw 25 = .ok (.aload_n 3, 1) := by decide +kernel
theorem dX1_offByLaw_26 : decode cX1_offByLaw 26 = .ok (.getfield 33, 3) := by decide +kernel
theorem dX1_offByLaw_29 : decode cX1_offByLaw 29 = .ok (.invokevirtual 36, 3) := by decide +kernel
theorem dX1_offByLaw_32 : decode cX1_offByLaw 32 = .ok (.istore 4, 2) := by decide +kernel
theorem dX1_offByLaw_34 : decode cX1_offByLaw 34 = .ok (.iload 4, 2) := by decide +kernel
theorem dX1_offByLaw_36 : decode cX1_offByLaw 36 = .ok (.aload_n 0, 1) := by decide +kernel
theorem dX1_offByLaw_37 : decode cX1_offByLaw 37 = .ok (.getfield 21, 3) := by decide +kernel
theorem dX1_offByLaw_40 : decode cX1_offByLaw 40 = .ok (.iload_n 1, 1) := by decide +kernel
theorem dX1_offByLaw_41 : decode cX1_offByLaw 41 = .ok (.iaload, 1) := by decide +kernel
theorem dX1_offByLaw_42 : decode cX1_offByLaw 42 = .ok (.isub, 1) := by decide +kernel
theorem dX1_offByLaw_43 : decode cX1_offByLaw 43 = .ok (.invokestatic 42, 3) := by decide +kernel
theorem dX1_offByLaw_46 : decode cX1_offByLaw 46 = .ok (.ireturn, 1) := by decide +kernel
theorem dX1_offByTenths_0 : decode cX1_offByTenths 0 = .ok (.iconst 0, 1) := by decide +kernel
theorem dX1_offByTenths_1 : decode cX1_offByTenths 1 = .ok (.istore_n 3, 1) := by decide +kernel
theorem dX1_offByTenths_2 : decode cX1_offByTenths 2 = .ok (.iconst 0, 1) := by decide +kernel
theorem dX1_offByTenths_3 : decode cX1_offByTenths 3 = .ok (.istore 4, 2) := by decide +kernel
theorem dX1_offByTenths_5 : decode cX1_offByTenths 5 = .ok (.iload 4, 2) := by decide +kernel
theorem dX1_offByTenths_7 : decode cX1_offByTenths 7 = .ok (.aload_n 0, 1) := by decide +kernel
theorem dX1_offByTenths_8 : decode cX1_offByTenths 8 = .ok (.getfield 24, 3) := by decide +kernel
theorem dX1_offByTenths_11 : decode cX1_offByTenths 11 = .ok (.if_icmp .ge 61, 3) := by decide +kernel
theorem dX1_offByTenths_14 : decode cX1_offByTenths 14 = .ok (.aload_n 0, 1) := by decide +kernel
theorem dX1_offByTenths_15 : decode cX1_offByTenths 15 = .ok (.getfield 9, 3) := by decide +kernel
theorem dX1_offByTenths_18 : decode cX1_offByTenths 18 = .ok (.iload 4, 2) := by decide +kernel
theorem dX1_offByTenths_20 : decode cX1_offByTenths 20 = .ok (.iaload, 1) := by decide +kernel
theorem dX1_offByTenths_21 : decode cX1_offByTenths 21 = .ok (.iload_n 1, 1) := by decide +kernel
theorem dX1_offByTenths_22 : decode cX1_offByTenths 22 = .ok (.imul, 1) := by decide +kernel
theorem dX1_offByTenths_23 : decode cX1_offByTenths 23 = .ok (.bipush 10, 2) := by decide +kernel
theorem dX1_offByTenths_25 : decode cX1_offByTenths 25 = .ok (.idiv, 1) := by decide +kernel
theorem dX1_offByTenths_26 : decode cX1_offByTenths 26 = .ok (.aload_n 0, 1) := by decide +kernel
theorem dX1_offByTenths_27 : decode cX1_offByTenths 27 = .ok (.getfield 15, 3) := by decide +kernel
theorem dX1_offByTenths_30 : decode cX1_offByTenths 30 = .ok (.iload 4, 2) := by decide +kernel
theorem dX1_offByTenths_32 : decode cX1_offByTenths 32 = .ok (.iaload, 1) := by decide +kernel
theorem dX1_offByTenths_33 : decode cX1_offByTenths 33 = .ok (.iload_n 2, 1) := by decide +kernel
theorem dX1_offByTenths_34 : decode cX1_offByTenths 34 = .ok (.imul, 1) := by decide +kernel
theorem dX1_offByTenths_35 : decode cX1_offByTenths 35 = .ok (.bipush 10, 2) := by decide +kernel
theorem dX1_offByTenths_37 : decode cX1_offByTenths 37 = .ok (.idiv, 1) := by decide +kernel
theorem dX1_offByTenths_38 : decode cX1_offByTenths 38 = .ok (.isub, 1) := by decide +kernel
theorem dX1_offByTenths_39 : decode cX1_offByTenths 39 = .ok (.sipush (-500), 3) := by decide +kernel
theorem dX1_offByTenths_42 : decode cX1_offByTenths 42 = .ok (.sipush 500, 3) := by decide +kernel
theorem dX1_offByTenths_45 : decode cX1_offByTenths 45 = .ok (.invokestatic 48, 3) := by decide +kernel
theorem dX1_offByTenths_48 : decode cX1_offByTenths 48 = .ok (.istore 5, 2) := by decide +kernel
theorem dX1_offByTenths_50 : decode cX1_offByTenths 50 = .ok (.iload_n 3, 1) := by decide +kernel
theorem dX1_offByTenths_51 : decode cX1_offByTenths 51 = .ok (.iload 5, 2) := by decide +kernel
theorem dX1_offByTenths_53 : decode cX1_offByTenths 53 = .ok (.aload_n 0, 1) := by decide +kernel
theorem dX1_offByTenths_54 : decode cX1_offByTenths 54 = .ok (.getfield 21, 3) := by decide +kernel
theorem dX1_offByTenths_57 : decode cX1_offByTenths 57 = .ok (.iload 4, 2) := by decide +kernel
theorem dX1_offByTenths_59 : decode cX1_offByTenths 59 = .ok (.iaload, 1) := by decide +kernel
theorem dX1_offByTenths_60 : decode cX1_offByTenths 60 = .ok (.isub, 1) := by decide +kernel
theorem dX1_offByTenths_61 : decode cX1_offByTenths 61 = .ok (.invokestatic 42, 3) := by decide +kernel
theorem dX1_offByTenths_64 : decode cX1_offByTenths 64 = .ok (.iadd, 1) := by decide +kernel
theorem dX1_offByTenths_65 : decode cX1_offByTenths 65 = .ok (.istore_n 3, 1) := by decide +kernel
theorem dX1_offByTenths_66 : decode cX1_offByTenths 66 = .ok (.iinc 4 1, 3) := by decide +kernel
theorem dX1_offByTenths_69 : decode cX1_offByTenths 69 = .ok (.goto (-64), 3) := by decide +kernel
theorem dX1_offByTenths_72 : decode cX1_offByTenths 72 = .ok (.iload_n 3, 1) := by decide +kernel
theorem dX1_offByTenths_73 : decode cX1_offByTenths 73 = .ok (.ireturn, 1) := by decide +kernel
theorem dX2_init_0 : decode cX2_init 0 = .ok (.aload_n 0, 1) := by decide +kernel
theorem dX2_init_1 : decode cX2_init 1 = .ok (.invokespecial 3, 3) := by decide +kernel
theorem dX2_init_4 : decode cX2_init 4 = .ok (.aload_n 0, 1) := by decide +kernel
theorem dX2_init_5 : decode cX2_init 5 = .ok (.bipush 40, 2) := by decide +kernel
theorem dX2_init_7 : decode cX2_init 7 = .ok (.newarray .int, 2) := by decide +kernel
theorem dX2_init_9 : decode cX2_init 9 = .ok (.putfield 9, 3) := by decide +kernel
theorem dX2_init_12 : decode cX2_init 12 = .ok (.aload_n 0, 1) := by decide +kernel
theorem dX2_init_13 : decode cX2_init 13 = .ok (.bipush 40, 2) := by decide +kernel
theorem dX2_init_15 : decode cX2_init 15 = .ok (.newarray .int, 2) := by decide +kernel
theorem dX2_init_17 : decode cX2_init 17 = .ok (.putfield 15, 3) := by decide +kernel
theorem dX2_init_20 : decode cX2_init 20 = .ok (.aload_n 0, 1) := by decide +kernel
theorem dX2_init_21 : decode cX2_init 21 = .ok (.iconst 0, 1) := by decide +kernel
theorem dX2_init_22 : decode cX2_init 22 = .ok (.putfield 18, 3) := by decide +kernel
theorem dX2_init_25 : decode cX2_init 25 = .ok (.return_, 1) := by decide +kernel
theorem dX2_read_0 : decode cX2_read 0 = .ok (.aload_n 0, 1) := by decide +kernel
theorem dX2_read_1 : decode cX2_read 1 = .ok (.iconst 0, 1) := by decide +kernel
theorem dX2_read_2 : decode cX2_read 2 = .ok (.putfield 18, 3) := by decide +kernel
theorem dX2_read_5 : decode cX2_read 5 = .ok (.aload_n 1, 1) := by decide +kernel
theorem dX2_read_6 : decode cX2_read 6 = .ok (.bipush 40, 2) := by decide +kernel
theorem dX2_read_8 : decode cX2_read 8 = .ok (.invokevirtual 22, 3) := by decide +kernel
theorem dX2_read_11 : decode cX2_read 11 = .ok (.ifCond .eq 9, 3) := by decide +kernel
theorem dX2_read_14 : decode cX2_read 14 = .ok (.aload_n 0, 1) := by decide +kernel
theorem dX2_read_15 : decode cX2_read 15 = .ok (.aload_n 1, 1) := by decide +kernel
theorem dX2_read_16 : decode cX2_read 16 = .ok (.iconst 0, 1) := by decide +kernel
theorem dX2_read_17 : decode cX2_read 17 = .ok (.invokevirtual 28, 3) := by decide +kernel
theorem dX2_read_20 : decode cX2_read 20 = .ok (.return_, 1) := by decide +kernel
theorem dX2_readSum_0 : decode cX2_readSum 0 = .ok (.aload_n 0, 1) := by decide +kernel
theorem dX2_readSum_1 : decode cX2_readSum 1 = .ok (.aload_n 1, 1) := by decide +kernel
theorem dX2_readSum_2 : decode cX2_readSum 2 = .ok (.iload_n 2, 1) := by decide +kernel
theorem dX2_readSum_3 : decode cX2_readSum 3 = .ok (.invokevirtual 32, 3) := by decide +kernel
theorem dX2_readSum_6 : decode cX2_readSum 6 = .ok (.iconst 0, 1) := by decide +kernel
theorem dX2_readSum_7 : decode cX2_readSum 7 = .ok (.istore_n 3, 1) := by decide +kernel
theorem dX2_readSum_8 : decode cX2_readSum 8 = .ok (.iload_n 3, 1) := by decide +kernel
theorem dX2_readSum_9 : decode cX2_readSum 9 = .ok (.bipush 40, 2) := by decide +kernel
theorem dX2_readSum_11 : decode cX2_readSum 11 = .ok (.if_icmp .ge 64, 3) := by decide +kernel
theorem dX2_readSum_14 : decode cX2_readSum 14 = .ok (.aload_n 1, 1) := by decide +kernel
theorem dX2_readSum_15 : decode cX2_readSum 15 = .ok (.invokevirtual 35, 3) := by decide +kernel
theorem dX2_readSum_18 : decode cX2_readSum 18 = .ok (.ifCond .eq 57, 3) := by decide +kernel
theorem dX2_readSum_21 : decode cX2_readSum 21 = .ok (.aload_n 1, 1) := by decide +kernel
theorem dX2_readSum_22 : decode cX2_readSum 22 = .ok (.bipush 43, 2) := by decide +kernel
theorem dX2_readSum_24 : decode cX2_readSum 24 = .ok (.invokevirtual 39, 3) := by decide +kernel
theorem dX2_readSum_27 : decode cX2_readSum 27 = .ok (.ifCond .eq 17, 3) := by decide +kernel
theorem dX2_readSum_30 : decode cX2_readSum 30 = .ok (.aload_n 0, 1) := by decide +kernel
theorem dX2_readSum_31 : decode cX2_readSum 31 = .ok (.aload_n 1, 1) := by decide +kernel
theorem dX2_readSum_32 : decode cX2_readSum 32 = .ok (.iload_n 2, 1) := by decide +kernel
theorem dX2_readSum_33 : decode cX2_readSum 33 = .ok (.invokevirtual 32, 3) := by decide +kernel
theorem dX2_readSum_36 : decode cX2_readSum 36 = .ok (.aload_n 0, 1) := by decide +kernel
theorem dX2_readSum_37 : decode cX2_readSum 37 = .ok (.iconst (-1), 1) := by decide +kernel
theorem dX2_readSum_38 : decode cX2_readSum 38 = .ok (.invokevirtual 43, 3) := by decide +kernel
theorem dX2_readSum_41 : decode cX2_readSum 41 = .ok (.goto 28, 3) := by decide +kernel
theorem dX2_readSum_44 : decode cX2_readSum 44 = .ok (.aload_n 1, 1) := by decide +kernel
theorem dX2_readSum_45 : decode cX2_readSum 45 = .ok (.bipush 45, 2) := by decide +kernel
theorem dX2_readSum_47 : decode cX2_readSum 47 = .ok (.invokevirtual 39, 3) := by decide +kernel
theorem dX2_readSum_50 : decode cX2_readSum 50 = .ok (.ifCond .eq 18, 3) := by decide +kernel
theorem dX2_readSum_53 : decode cX2_readSum 53 = .ok (.aload_n 0, 1) := by decide +kernel
theorem dX2_readSum_54 : decode cX2_readSum 54 = .ok (.aload_n 1, 1) := by decide +kernel
theorem dX2_readSum_55 : decode cX2_readSum 55 = .ok (.iload_n 2, 1) := by decide +kernel
theorem dX2_readSum_56 : decode cX2_readSum 56 = .ok (.invokevirtual 32, 3) := by decide +kernel
theorem dX2_readSum_59 : decode cX2_readSum 59 = .ok (.aload_n 0, 1) := by decide +kernel
theorem dX2_readSum_60 : decode cX2_readSum 60 = .ok (.bipush (-2), 2) := by decide +kernel
theorem dX2_readSum_62 : decode cX2_readSum 62 = .ok (.invokevirtual 43, 3) := by decide +kernel
theorem dX2_readSum_65 : decode cX2_readSum 65 = .ok (.goto 4, 3) := by decide +kernel
theorem dX2_readSum_68 : decode cX2_readSum 68 = .ok (.return_, 1) := by decide +kernel
theorem dX2_readSum_69 : decode cX2_readSum 69 = .ok (.iinc 3 1, 3) := by decide +kernel
theorem dX2_readSum_72 : decode cX2_readSum 72 = .ok (.goto (-64), 3) := by decide +kernel
theorem dX2_readSum_75 : decode cX2_readSum 75 = .ok (.return_, 1) := by decide +kernel
theorem dX2_readProduct_0 : decode cX2_readProduct 0 = .ok (.aload_n 0, 1) := by decide +kernel
theorem dX2_readProduct_1 : decode cX2_readProduct 1 = .ok (.aload_n 1, 1) := by decide +kernel
theorem dX2_readProduct_2 : decode cX2_readProduct 2 = .ok (.iload_n 2, 1) := by decide +kernel
theorem dX2_readProduct_3 : decode cX2_readProduct 3 = .ok (.invokevirtual 47, 3) := by decide +kernel
theorem dX2_readProduct_6 : decode cX2_readProduct 6 = .ok (.iconst 0, 1) := by decide +kernel
theorem dX2_readProduct_7 : decode cX2_readProduct 7 = .ok (.istore_n 3, 1) := by decide +kernel
theorem dX2_readProduct_8 : decode cX2_readProduct 8 = .ok (.iload_n 3, 1) := by decide +kernel
theorem dX2_readProduct_9 : decode cX2_readProduct 9 = .ok (.bipush 40, 2) := by decide +kernel
theorem dX2_readProduct_11 : decode cX2_readProduct 11 = .ok (.if_icmp .ge 65, 3) := by decide +kernel
theorem dX2_readProduct_14 : decode cX2_readProduct 14 = .ok (.aload_n 1, 1) := by decide +kernel
theorem dX2_readProduct_15 : decode cX2_readProduct 15 = .ok (.invokevirtual 35, 3) := by decide +kernel
theorem dX2_readProduct_18 : decode cX2_readProduct 18 = .ok (.ifCond .eq 58, 3) := by decide +kernel
theorem dX2_readProduct_21 : decode cX2_readProduct 21 = .ok (.aload_n 1, 1) := by decide +kernel
theorem dX2_readProduct_22 : decode cX2_readProduct 22 = .ok (.bipush 42, 2) := by decide +kernel
theorem dX2_readProduct_24 : decode cX2_readProduct 24 = .ok (.invokevirtual 39, 3) := by decide +kernel
theorem dX2_readProduct_27 : decode cX2_readProduct 27 = .ok (.ifCond .eq 18, 3) := by decide +kernel
theorem dX2_readProduct_30 : decode cX2_readProduct 30 = .ok (.aload_n 0, 1) := by decide +kernel
theorem dX2_readProduct_31 : decode cX2_readProduct 31 = .ok (.aload_n 1, 1) := by decide +kernel
theorem dX2_readProduct_32 : decode cX2_readProduct 32 = .ok (.iload_n 2, 1) := by decide +kernel
theorem dX2_readProduct_33 : decode cX2_readProduct 33 = .ok (.invokevirtual 47, 3) := by decide +kernel
theorem dX2_readProduct_36 : decode cX2_readProduct 36 = .ok (.aload_n 0, 1) := by decide +kernel
theorem dX2_readProduct_37 : decode cX2_readProduct 37 = .ok (.bipush (-3), 2) := by decide +kernel
theorem dX2_readProduct_39 : decode cX2_readProduct 39 = .ok (.invokevirtual 43, 3) := by decide +kernel
theorem dX2_readProduct_42 : decode cX2_readProduct 42 = .ok (.goto 28, 3) := by decide +kernel
theorem dX2_readProduct_45 : decode cX2_readProduct 45 = .ok (.aload_n 1, 1) := by decide +kernel
theorem dX2_readProduct_46 : decode cX2_readProduct 46 = .ok (.bipush 47, 2) := by decide +kernel
theorem dX2_readProduct_48 : decode cX2_readProduct 48 = .ok (.invokevirtual 39, 3) := by decide +kernel
theorem dX2_readProduct_51 : decode cX2_readProduct 51 = .ok (.ifCond .eq 18, 3) := by decide +kernel
theorem dX2_readProduct_54 : decode cX2_readProduct 54 = .ok (.aload_n 0, 1) := by decide +kernel
theorem dX2_readProduct_55 : decode cX2_readProduct 55 = .ok (.aload_n 1, 1) := by decide +kernel
theorem dX2_readProduct_56 : decode cX2_readProduct 56 = .ok (.iload_n 2, 1) := by decide +kernel
theorem dX2_readProduct_57 : decode cX2_readProduct 57 = .ok (.invokevirtual 47, 3) := by decide +kernel
theorem dX2_readProduct_60 : decode cX2_readProduct 60 = .ok (.aload_n 0, 1) := by decide +kernel
theorem dX2_readProduct_61 : decode cX2_readProduct 61 = .ok (.bipush (-4), 2) := by decide +kernel
theorem dX2_readProduct_63 : decode cX2_readProduct 63 = .ok (.invokevirtual 43, 3) := by decide +kernel
theorem dX2_readProduct_66 : decode cX2_readProduct 66 = .ok (.goto 4, 3) := by decide +kernel
theorem dX2_readProduct_69 : decode cX2_readProduct 69 = .ok (.return_, 1) := by decide +kernel
theorem dX2_readProduct_70 : decode cX2_readProduct 70 = .ok (.iinc 3 1, 3) := by decide +kernel
theorem dX2_readProduct_73 : decode cX2_readProduct 73 = .ok (.goto (-65), 3) := by decide +kernel
theorem dX2_readProduct_76 : decode cX2_readProduct 76 = .ok (.return_, 1) := by decide +kernel
theorem dX2_readThing_0 : decode cX2_readThing 0 = .ok (.iconst 0, 1) := by decide +kernel
theorem dX2_readThing_1 : decode cX2_readThing 1 = .ok (.istore_n 3, 1) := by decide +kernel
theorem dX2_readThing_2 : decode cX2_readThing 2 = .ok (.iconst 0, 1) := by decide +kernel
theorem dX2_readThing_3 : decode cX2_readThing 3 = .ok (.istore 4, 2) := by decide +kernel
theorem dX2_readThing_5 : decode cX2_readThing 5 = .ok (.iload 4, 2) := by decide +kernel
theorem dX2_readThing_7 : decode cX2_readThing 7 = .ok (.bipush 40, 2) := by decide +kernel
theorem dX2_readThing_9 : decode cX2_readThing 9 = .ok (.if_icmp .ge 28, 3) := by decide +kernel
theorem dX2_readThing_12 : decode cX2_readThing 12 = .ok (.aload_n 1, 1) := by decide +kernel
theorem dX2_readThing_13 : decode cX2_readThing 13 = .ok (.bipush 45, 2) := by decide +kernel
theorem dX2_readThing_15 : decode cX2_readThing 15 = .ok (.invokevirtual 39, 3) := by decide +kernel
theorem dX2_readThing_18 : decode cX2_readThing 18 = .ok (.ifCond .eq 19, 3) := by decide +kernel
theorem dX2_readThing_21 : decode cX2_readThing 21 = .ok (.iload_n 3, 1) := by decide +kernel
theorem dX2_readThing_22 : decode cX2_readThing 22 = .ok (.ifCond .ne 7, 3) := by decide +kernel
theorem dX2_readThing_25 : decode cX2_readThing 25 = .ok (.iconst 1, 1) := by decide +kernel
theorem dX2_readThing_26 : decode cX2_readThing 26 = .ok (.goto 4, 3) := by decide +kernel
theorem dX2_readThing_29 : decode cX2_readThing 29 = .ok (.iconst 0, 1) := by decide +kernel
theorem dX2_readThing_30 : decode cX2_readThing 30 = .ok (.istore_n 3, 1) := by decide +kernel
theorem dX2_readThing_31 : decode cX2_readThing 31 = .ok (.iinc 4 1, 3) := by decide +kernel
theorem dX2_readThing_34 : decode cX2_readThing 34 = .ok (.goto (-29), 3) := by decide +kernel
theorem dX2_readThing_37 : decode cX2_readThing 37 = .ok (.aload_n 1, 1) := by decide +kernel
theorem dX2_readThing_38 : decode cX2_readThing 38 = .ok (.invokevirtual 50, 3) := by decide +kernel
theorem dX2_readThing_41 : decode cX2_readThing 41 = .ok (.ifCond .eq 18, 3) := by decide +kernel
theorem dX2_readThing_44 : decode cX2_readThing 44 = .ok (.aload_n 0, 1) := by decide +kernel
theorem dX2_readThing_45 : decode cX2_readThing 45 = .ok (.aload_n 1, 1) := by decide +kernel
theorem dX2_readThing_46 : decode cX2_readThing 46 = .ok (.iconst 0, 1) := by decide +kernel
theorem dX2_readThing_47 : decode cX2_readThing 47 = .ok (.sipush 999, 3) := by decide +kernel
theorem dX2_readThing_50 : decode cX2_readThing 50 = .ok (.invokevirtual 53, 3) := by decide +kernel
theorem dX2_readThing_53 : decode cX2_readThing 53 = .ok (.invokevirtual 43, 3) := by decide +kernel
theorem dX2_readThing_56 : decode cX2_readThing 56 = .ok (.goto 39, 3) := by decide +kernel
theorem dX2_readThing_59 : decode cX2_readThing 59 = .ok (.iload_n 2, 1) := by decide +kernel
theorem dX2_readThing_60 : decode cX2_readThing 60 = .ok (.iconst 4, 1) := by decide +kernel
theorem dX2_readThing_61 : decode cX2_readThing 61 = .ok (.if_icmp .ge 29, 3) := by decide +kernel
theorem dX2_readThing_64 : decode cX2_readThing 64 = .ok (.aload_n 1, 1) := by decide +kernel
theorem dX2_readThing_65 : decode cX2_readThing 65 = .ok (.bipush 40, 2) := by decide +kernel
theorem dX2_readThing_67 : decode cX2_readThing 67 = .ok (.invokevirtual 39, 3) := by decide +kernel
theorem dX2_readThing_70 : decode cX2_readThing 70 = .ok (.ifCond .eq 20, 3) := by decide +kernel
theorem dX2_readThing_73 : decode cX2_readThing 73 = .ok (.aload_n 0, 1) := by decide +kernel
theorem dX2_readThing_74 : decode cX2_readThing 74 = .ok (.aload_n 1, 1) := by decide +kernel
theorem dX2_readThing_75 : decode cX2_readThing 75 = .ok (.iload_n 2, 1) := by decide +kernel
theorem dX2_readThing_76 : decode cX2_readThing 76 = .ok (.iconst 1, 1) := by decide +kernel
theorem dX2_readThing_77 : decode cX2_readThing 77 = .ok (.iadd, 1) := by decide +kernel
theorem dX2_readThing_78 : decode cX2_readThing 78 = .ok (.invokevirtual 28, 3) := by decide +kernel
theorem dX2_readThing_81 : decode cX2_readThing 81 = .ok (.aload_n 1, 1) := by decide +kernel
theorem dX2_readThing_82 : decode cX2_readThing 82 = .ok (.bipush 41, 2) := by decide +kernel
theorem dX2_readThing_84 : decode cX2_readThing 84 = .ok (.invokevirtual 57, 3) := by decide +kernel
theorem dX2_readThing_87 : decode cX2_readThing 87 = .ok (.goto 8, 3) := by decide +kernel
theorem dX2_readThing_90 : decode cX2_readThing 90 = .ok (.aload_n 0, 1) := by decide +kernel
theorem dX2_readThing_91 : decode cX2_readThing 91 = .ok (.aload_n 1, 1) := by decide +kernel
theorem dX2_readThing_92 : decode cX2_readThing 92 = .ok (.invokevirtual 61, 3) := by decide +kernel
theorem dX2_readThing_95 : decode cX2_readThing 95 = .ok (.iload_n 3, 1) := by decide +kernel
theorem dX2_readThing_96 : decode cX2_readThing 96 = .ok (.ifCond .eq 9, 3) := by decide +kernel
theorem dX2_readThing_99 : decode cX2_readThing 99 = .ok (.aload_n 0, 1) := by decide +kernel
theorem dX2_readThing_100 : decode cX2_readThing 100 = .ok (.bipush (-5), 2) := by decide +kernel
theorem dX2_readThing_102 : decode cX2_readThing 102 = .ok (.invokevirtual 43, 3) := by decide +kernel
theorem dX2_readThing_105 : decode cX2_readThing 105 = .ok (.return_, 1) := by decide +kernel
theorem dX2_readName_0 : decode cX2_readName 0 = .ok (.aload_n 1, 1) := by decide +kernel
theorem dX2_readName_1 : decode cX2_readName 1 = .ok (.bipush 112, 2) := by decide +kernel
theorem dX2_readName_3 : decode cX2_readName 3 = .ok (.invokevirtual 39, 3) := by decide +kernel
theorem dX2_readName_6 : decode cX2_readName 6 = .ok (.ifCond .eq 12, 3) := by decide +kernel
theorem dX2_readName_9 : decode cX2_readName 9 = .ok (.aload_n 0, 1) := by decide +kernel
theorem dX2_readName_10 : decode cX2_readName 10 = .ok (.bipush (-6), 2) := by decide +kernel
theorem dX2_readName_12 : decode cX2_readName 12 = .ok (.invokevirtual 43, 3) := by decide +kernel
theorem dX2_readName_15 : decode cX2_readName 15 = .ok (.goto 79, 3) := by decide +kernel
theorem dX2_readName_18 : decode cX2_readName 18 = .ok (.aload_n 1, 1) := by decide +kernel
theorem dX2_readName_19 : decode cX2_readName 19 = .ok (.bipush 115, 2) := by decide +kernel
theorem dX2_readName_21 : decode cX2_readName 21 = .ok (.invokevirtual 39, 3) := by decide +kernel
theorem dX2_readName_24 : decode cX2_readName 24 = .ok (.ifCond .eq 12, 3) := by decide +kernel
theorem dX2_readName_27 : decode cX2_readName 27 = .ok (.aload_n 0, 1) := by decide +kernel
theorem dX2_readName_28 : decode cX2_readName 28 = .ok (.bipush (-7), 2) := by decide +kernel
theorem dX2_readName_30 : decode cX2_readName 30 = .ok (.invokevirtual 43, 3) := by decide +kernel
theorem dX2_readName_33 : decode cX2_readName 33 = .ok (.goto 61, 3) := by decide +kernel
theorem dX2_readName_36 : decode cX2_readName 36 = .ok (.aload_n 1, 1) := by decide +kernel
theorem dX2_readName_37 : decode cX2_readName 37 = .ok (.bipush 116, 2) := by decide +kernel
theorem dX2_readName_39 : decode cX2_readName 39 = .ok (.invokevirtual 39, 3) := by decide +kernel
theorem dX2_readName_42 : decode cX2_readName 42 = .ok (.ifCond .eq 12, 3) := by decide +kernel
theorem dX2_readName_45 : decode cX2_readName 45 = .ok (.aload_n 0, 1) := by decide +kernel
theorem dX2_readName_46 : decode cX2_readName 46 = .ok (.bipush (-8), 2) := by decide +kernel
theorem dX2_readName_48 : decode cX2_readName 48 = .ok (.invokevirtual 43, 3) := by decide +kernel
theorem dX2_readName_51 : decode cX2_readName 51 = .ok (.goto 43, 3) := by decide +kernel
theorem dX2_readName_54 : decode cX2_readName 54 = .ok (.aload_n 1, 1) := by decide +kernel
theorem dX2_readName_55 : decode cX2_readName 55 = .ok (.bipush 102, 2) := by decide +kernel
theorem dX2_readName_57 : decode cX2_readName 57 = .ok (.invokevirtual 39, 3) := by decide +kernel
theorem dX2_readName_60 : decode cX2_readName 60 = .ok (.ifCond .eq 12, 3) := by decide +kernel
theorem dX2_readName_63 : decode cX2_readName 63 = .ok (.aload_n 0, 1) := by decide +kernel
theorem dX2_readName_64 : decode cX2_readName 64 = .ok (.bipush (-9), 2) := by decide +kernel
theorem dX2_readName_66 : decode cX2_readName 66 = .ok (.invokevirtual 43, 3) := by decide +kernel
theorem dX2_readName_69 : decode cX2_readName 69 = .ok (.goto 25, 3) := by decide +kernel
theorem dX2_readName_72 : decode cX2_readName 72 = .ok (.aload_n 1, 1) := by decide +kernel
theorem dX2_readName_73 : decode cX2_readName 73 = .ok (.bipush 104, 2) := by decide +kernel
theorem dX2_readName_75 : decode cX2_readName 75 = .ok (.invokevirtual 39, 3) := by decide +kernel
theorem dX2_readName_78 : decode cX2_readName 78 = .ok (.ifCond .eq 12, 3) := by decide +kernel
theorem dX2_readName_81 : decode cX2_readName 81 = .ok (.aload_n 0, 1) := by decide +kernel
theorem dX2_readName_82 : decode cX2_readName 82 = .ok (.bipush (-10), 2) := by decide +kernel
theorem dX2_readName_84 : decode cX2_readName 84 = .ok (.invokevirtual 43, 3) := by decide +kernel
theorem dX2_readName_87 : decode cX2_readName 87 = .ok (.goto 7, 3) := by decide +kernel
theorem dX2_readName_90 : decode cX2_readName 90 = .ok (.aload_n 1, 1) := by decide +kernel
theorem dX2_readName_91 : decode cX2_readName 91 = .ok (.invokevirtual 65, 3) := by decide +kernel
theorem dX2_readName_94 : decode cX2_readName 94 = .ok (.return_, 1) := by decide +kernel
theorem dX2_emit_0 : decode cX2_emit 0 = .ok (.aload_n 0, 1) := by decide +kernel
theorem dX2_emit_1 : decode cX2_emit 1 = .ok (.getfield 18, 3) := by decide +kernel
theorem dX2_emit_4 : decode cX2_emit 4 = .ok (.aload_n 0, 1) := by decide +kernel
theorem dX2_emit_5 : decode cX2_emit 5 = .ok (.getfield 9, 3) := by decide +kernel
theorem dX2_emit_8 : decode cX2_emit 8 = .ok (.arraylength, 1) := by decide +kernel
theorem dX2_emit_9 : decode cX2_emit 9 = .ok (.if_icmp .ge 23, 3) := by decide +kernel
theorem dX2_emit_12 : decode cX2_emit 12 = .ok (.aload_n 0, 1) := by decide +kernel
theorem dX2_emit_13 : decode cX2_emit 13 = .ok (.getfield 9, 3) := by decide +kernel
theorem dX2_emit_16 : decode cX2_emit 16 = .ok (.aload_n 0, 1) := by decide +kernel
theorem dX2_emit_17 : decode cX2_emit 17 = .ok (.getfield 18, 3) := by decide +kernel
theorem dX2_emit_20 : decode cX2_emit 20 = .ok (.iload_n 1, 1) := by decide +kernel
theorem dX2_emit_21 : decode cX2_emit 21 = .ok (.iastore, 1) := by decide +kernel
theorem dX2_emit_22 : decode cX2_emit 22 = .ok (.aload_n 0, 1) := by decide +kernel
theorem dX2_emit_23 : decode cX2_emit 23 = .ok (.dup, 1) := by decide +kernel
theorem dX2_emit_24 : decode cX2_emit 24 = .ok (.getfield 18, 3) := by decide +kernel
theorem dX2_emit_27 : decode cX2_emit 27 = .ok (.iconst 1, 1) := by decide +kernel
theorem dX2_emit_28 : decode cX2_emit 28 = .ok (.iadd, 1) := by decide +kernel
theorem dX2_emit_29 : decode cX2_emit 29 = .ok (.putfield 18, 3) := by decide +kernel
theorem dX2_emit_32 : decode cX2_emit 32 = .ok (.return_, 1) := by decide +kernel
theorem dX2_bounded_0 : decode cX2_bounded 0 = .ok (.iconst 0, 1) := by decide +kernel
theorem dX2_bounded_1 : decode cX2_bounded 1 = .ok (.istore 6, 2) := by decide +kernel
theorem dX2_bounded_3 : decode cX2_bounded 3 = .ok (.iconst 0, 1) := by decide +kernel
theorem dX2_bounded_4 : decode cX2_bounded 4 = .ok (.istore 7, 2) := by decide +kernel
theorem dX2_bounded_6 : decode cX2_bounded 6 = .ok (.iload 7, 2) := by decide +kernel
theorem dX2_bounded_8 : decode cX2_bounded 8 = .ok (.aload_n 0, 1) := by decide +kernel
theorem dX2_bounded_9 : decode cX2_bounded 9 = .ok (.getfield 18, 3) := by decide +kernel
theorem dX2_bounded_12 : decode cX2_bounded 12 = .ok (.if_icmp .ge 158, 3) := by decide +kernel
theorem dX2_bounded_15 : decode cX2_bounded 15 = .ok (.iload 7, 2) := by decide +kernel
theorem dX2_bounded_17 : decode cX2_bounded 17 = .ok (.aload_n 0, 1) := by decide +kernel
theorem dX2_bounded_18 : decode cX2_bounded 18 = .ok (.getfield 9, 3) := by decide +kernel
theorem dX2_bounded_21 : decode cX2_bounded 21 = .ok (.arraylength, 1) := by decide +kernel
theorem dX2_bounded_22 : decode cX2_bounded 22 = .ok (.if_icmp .ge 148, 3) := by decide +kernel
theorem dX2_bounded_25 : decode cX2_bounded 25 = .ok (.aload_n 0, 1) := by decide +kernel
theorem dX2_bounded_26 : decode cX2_bounded 26 = .ok (.getfield 9, 3) := by decide +kernel
theorem dX2_bounded_29 : decode cX2_bounded 29 = .ok (.iload 7, 2) := by decide +kernel
theorem dX2_bounded_31 : decode cX2_bounded 31 = .ok (.iaload, 1) := by decide +kernel
theorem dX2_bounded_32 : decode cX2_bounded 32 = .ok (.istore 8, 2) := by decide +kernel
theorem dX2_bounded_34 : decode cX2_bounded 34 = .ok (.iload 8, 2) := by decide +kernel
theorem dX2_bounded_36 : decode cX2_bounded 36 = .ok (.bipush (-5), 2) := by decide +kernel
theorem dX2_bounded_38 : decode cX2_bounded 38 = .ok (.if_icmp .ne 31, 3) := by decide +kernel
theorem dX2_bounded_41 : decode cX2_bounded 41 = .ok (.iload 6, 2) := by decide +kernel
theorem dX2_bounded_43 : decode cX2_bounded 43 = .ok (.iconst 1, 1) := by decide +kernel
theorem dX2_bounded_44 : decode cX2_bounded 44 = .ok (.if_icmp .lt 25, 3) := by decide +kernel
theorem dX2_bounded_47 : decode cX2_bounded 47 = .ok (.aload_n 0, 1) := by decide +kernel
theorem dX2_bounded_48 : decode cX2_bounded 48 = .ok (.getfield 15, 3) := by decide +kernel
theorem dX2_bounded_51 : decode cX2_bounded 51 = .ok (.iload 6, 2) := by decide +kernel
theorem dX2_bounded_53 : decode cX2_bounded 53 = .ok (.iconst 1, 1) := by decide +kernel
theorem dX2_bounded_54 : decode cX2_bounded 54 = .ok (.isub, 1) := by decide +kernel
theorem dX2_bounded_55 : decode cX2_bounded 55 = .ok (.aload_n 0, 1) := by decide +kernel
theorem dX2_bounded_56 : decode cX2_bounded 56 = .ok (.getfield 15, 3) := by decide +kernel
theorem dX2_bounded_59 : decode cX2_bounded 59 = .ok (.iload 6, 2) := by decide +kernel
theorem dX2_bounded_61 : decode cX2_bounded 61 = .ok (.iconst 1, 1) := by decide +kernel
theorem dX2_bounded_62 : decode cX2_bounded 62 = .ok (.isub, 1) := by decide +kernel
theorem dX2_bounded_63 : decode cX2_bounded 63 = .ok (.iaload, 1) := by decide +kernel
theorem dX2_bounded_64 : decode cX2_bounded 64 = .ok (.ineg, 1) := by decide +kernel
theorem dX2_bounded_65 : decode cX2_bounded 65 = .ok (.iastore, 1) := by decide +kernel
theorem dX2_bounded_66 : decode cX2_bounded 66 = .ok (.goto 98, 3) := by decide +kernel
theorem dX2_bounded_69 : decode cX2_bounded 69 = .ok (.iload 8, 2) := by decide +kernel
theorem dX2_bounded_71 : decode cX2_bounded 71 = .ok (.bipush (-4), 2) := by decide +kernel
theorem dX2_bounded_73 : decode cX2_bounded 73 = .ok (.iconst (-1), 1) := by decide +kernel
theorem dX2_bounded_74 : decode cX2_bounded 74 = .ok (.invokestatic 68, 3) := by decide +kernel
theorem dX2_bounded_77 : decode cX2_bounded 77 = .ok (.ifCond .eq 45, 3) := by decide +kernel
theorem dX2_bounded_80 : decode cX2_bounded 80 = .ok (.iload 6, 2) := by decide +kernel
theorem dX2_bounded_82 : decode cX2_bounded 82 = .ok (.iconst 2, 1) := by decide +kernel
theorem dX2_bounded_83 : decode cX2_bounded 83 = .ok (.if_icmp .lt 39, 3) := by decide +kernel
theorem dX2_bounded_86 : decode cX2_bounded 86 = .ok (.iinc 6 (-1), 3) := by decide +kernel
theorem dX2_bounded_89 : decode cX2_bounded 89 = .ok (.aload_n 0, 1) := by decide +kernel
theorem dX2_bounded_90 : decode cX2_bounded 90 = .ok (.getfield 15, 3) := by decide +kernel
theorem dX2_bounded_93 : decode cX2_bounded 93 = .ok (.iload 6, 2) := by decide +kernel
theorem dX2_bounded_95 : decode cX2_bounded 95 = .ok (.iconst 1, 1) := by decide +kernel
theorem dX2_bounded_96 : decode cX2_bounded 96 = .ok (.isub, 1) := by decide +kernel
theorem dX2_bounded_97 : decode cX2_bounded 97 = .ok (.iload 8, 2) := by decide +kernel
theorem dX2_bounded_99 : decode cX2_bounded 99 = .ok (.aload_n 0, 1) := by decide +kernel
theorem dX2_bounded_100 : decode cX2_bounded 100 = .ok (.getfield 15, 3) := by decide +kernel
theorem dX2_bounded_103 : decode cX2_bounded 103 = .ok (.iload 6, 2) := by decide +kernel
theorem dX2_bounded_105 : decode cX2_bounded 105 = .ok (.iconst 1, 1) := by decide +kernel
theorem dX2_bounded_106 : decode cX2_bounded 106 = .ok (.isub, 1) := by decide +kernel
theorem dX2_bounded_107 : decode cX2_bounded 107 = .ok (.iaload, 1) := by decide +kernel
theorem dX2_bounded_108 : decode cX2_bounded 108 = .ok (.aload_n 0, 1) := by decide +kernel
theorem dX2_bounded_109 : decode cX2_bounded 109 = .ok (.getfield 15, 3) := by decide +kernel
theorem dX2_bounded_112 : decode cX2_bounded 112 = .ok (.iload 6, 2) := by decide +kernel
theorem dX2_bounded_114 : decode cX2_bounded 114 = .ok (.iaload, 1) := by decide +kernel
theorem dX2_bounded_115 : decode cX2_bounded 115 = .ok (.invokestatic 72, 3) := by decide +kernel
theorem dX2_bounded_118 : decode cX2_bounded 118 = .ok (.iastore, 1) := by decide +kernel
theorem dX2_bounded_119 : decode cX2_bounded 119 = .ok (.goto 45, 3) := by decide +kernel
theorem dX2_bounded_122 : decode cX2_bounded 122 = .ok (.iload 6, 2) := by decide +kernel
theorem dX2_bounded_124 : decode cX2_bounded 124 = .ok (.aload_n 0, 1) := by decide +kernel
theorem dX2_bounded_125 : decode cX2_bounded 125 = .ok (.getfield 15, 3) := by decide +kernel
theorem dX2_bounded_128 : decode cX2_bounded 128 = .ok (.arraylength, 1) := by decide +kernel
theorem dX2_bounded_129 : decode cX2_bounded 129 = .ok (.if_icmp .ge 35, 3) := by decide +kernel
theorem dX2_bounded_132 : decode cX2_bounded 132 = .ok (.aload_n 0, 1) := by decide +kernel
theorem dX2_bounded_133 : decode cX2_bounded 133 = .ok (.getfield 15, 3) := by decide +kernel
theorem dX2_bounded_136 : decode cX2_bounded 136 = .ok (.iload 6, 2) := by decide +kernel
theorem dX2_bounded_138 : decode cX2_bounded 138 = .ok (.iload 8, 2) := by decide +kernel
theorem dX2_bounded_140 : decode cX2_bounded 140 = .ok (.ifCond .lt 8, 3) := by decide +kernel
theorem dX2_bounded_143 : decode cX2_bounded 143 = .ok (.iload 8, 2) := by decide +kernel
theorem dX2_bounded_145 : decode cX2_bounded 145 = .ok (.goto 15, 3) := by decide +kernel
theorem dX2_bounded_148 : decode cX2_bounded 148 = .ok (.iload 8, 2) := by decide +kernel
theorem dX2_bounded_150 : decode cX2_bounded 150 = .ok (.iload_n 1, 1) := by decide +kernel
theorem dX2_bounded_151 : decode cX2_bounded 151 = .ok (.iload_n 2, 1) := by decide +kernel
theorem dX2_bounded_152 : decode cX2_bounded 152 = .ok (.iload_n 3, 1) := by decide +kernel
theorem dX2_bounded_153 : decode cX2_bounded 153 = .ok (.iload 4, 2) := by decide +kernel
theorem dX2_bounded_155 : decode cX2_bounded 155 = .ok (.iload 5, 2) := by decide +kernel
theorem dX2_bounded_157 : decode cX2_bounded 157 = .ok (.invokestatic 76, 3) := by decide +kernel
theorem dX2_bounded_160 : decode cX2_bounded 160 = .ok (.iastore, 1) := by decide +kernel
theorem dX2_bounded_161 : decode cX2_bounded 161 = .ok (.iinc 6 1, 3) := by decide +kernel
theorem dX2_bounded_164 : decode cX2_bounded 164 = .ok (.iinc 7 1, 3) := by decide +kernel
theorem dX2_bounded_167 : decode cX2_bounded 167 = .ok (.goto (-161), 3) := by decide +kernel
theorem dX2_bounded_170 : decode cX2_bounded 170 = .ok (.iload 6, 2) := by decide +kernel
theorem dX2_bounded_172 : decode cX2_bounded 172 = .ok (.ifCond .le 24, 3) := by decide +kernel
theorem dX2_bounded_175 : decode cX2_bounded 175 = .ok (.aload_n 0, 1) := by decide +kernel
theorem dX2_bounded_176 : decode cX2_bounded 176 = .ok (.getfield 15, 3) := by decide +kernel
theorem dX2_bounded_179 : decode cX2_bounded 179 = .ok (.iload 6, 2) := by decide +kernel
theorem dX2_bounded_181 : decode cX2_bounded 181 = .ok (.iconst 1, 1) := by decide +kernel
theorem dX2_bounded_182 : decode cX2_bounded 182 = .ok (.isub, 1) := by decide +kernel
theorem dX2_bounded_183 : decode cX2_bounded 183 = .ok (.iaload, 1) := by decide +kernel
theorem dX2_bounded_184 : decode cX2_bounded 184 = .ok (.sipush (-500), 3) := by decide +kernel
theorem dX2_bounded_187 : decode cX2_bounded 187 = .ok (.sipush 500, 3) := by decide +kernel
theorem dX2_bounded_190 : decode cX2_bounded 190 = .ok (.invokestatic 80, 3) := by decide +kernel
theorem dX2_bounded_193 : decode cX2_bounded 193 = .ok (.goto 4, 3) := by decide +kernel
theorem dX2_bounded_196 : decode cX2_bounded 196 = .ok (.iconst 0, 1) := by decide +kernel
theorem dX2_bounded_197 : decode cX2_bounded 197 = .ok (.ireturn, 1) := by decide +kernel
theorem dX2_joined_0 : decode cX2_joined 0 = .ok (.iload_n 0, 1) := by decide +kernel
theorem dX2_joined_1 : decode cX2_joined 1 = .ok (.tableswitch 39 (-3) (-1) #[35, 31, 27], 27) := by decide +kernel
theorem dX2_joined_28 : decode cX2_joined 28 = .ok (.iload_n 1, 1) := by decide +kernel
theorem dX2_joined_29 : decode cX2_joined 29 = .ok (.iload_n 2, 1) := by decide +kernel
theorem dX2_joined_30 : decode cX2_joined 30 = .ok (.iadd, 1) := by decide +kernel
theorem dX2_joined_31 : decode cX2_joined 31 = .ok (.ireturn, 1) := by decide +kernel
theorem dX2_joined_32 : decode cX2_joined 32 = .ok (.iload_n 1, 1) := by decide +kernel
theorem dX2_joined_33 : decode cX2_joined 33 = .ok (.iload_n 2, 1) := by decide +kernel
theorem dX2_joined_34 : decode cX2_joined 34 = .ok (.isub, 1) := by decide +kernel
theorem dX2_joined_35 : decode cX2_joined 35 = .ok (.ireturn, 1) := by decide +kernel
theorem dX2_joined_36 : decode cX2_joined 36 = .ok (.iload_n 1, 1) := by decide +kernel
theorem dX2_joined_37 : decode cX2_joined 37 = .ok (.iload_n 2, 1) := by decide +kernel
theorem dX2_joined_38 : decode cX2_joined 38 = .ok (.imul, 1) := by decide +kernel
theorem dX2_joined_39 : decode cX2_joined 39 = .ok (.ireturn, 1) := by decide +kernel
theorem dX2_joined_40 : decode cX2_joined 40 = .ok (.iload_n 2, 1) := by decide +kernel
theorem dX2_joined_41 : decode cX2_joined 41 = .ok (.ifCond .ne 7, 3) := by decide +kernel
theorem dX2_joined_44 : decode cX2_joined 44 = .ok (.iconst 0, 1) := by decide +kernel
theorem dX2_joined_45 : decode cX2_joined 45 = .ok (.goto 6, 3) := by decide +kernel
theorem dX2_joined_48 : decode cX2_joined 48 = .ok (.iload_n 1, 1) := by decide +kernel
theorem dX2_joined_49 : decode cX2_joined 49 = .ok (.iload_n 2, 1) := by decide +kernel
theorem dX2_joined_50 : decode cX2_joined 50 = .ok (.idiv, 1) := by decide +kernel
theorem dX2_joined_51 : decode cX2_joined 51 = .ok (.ireturn, 1) := by decide +kernel
theorem dX2_named_0 : decode cX2_named 0 = .ok (.iload_n 0, 1) := by decide +kernel
theorem dX2_named_1 : decode cX2_named 1 = .ok (.tableswitch 40 (-9) (-6) #[37, 35, 33, 31], 31) := by decide +kernel
theorem dX2_named_32 : decode cX2_named 32 = .ok (.iload_n 1, 1) := by decide +kernel
theorem dX2_named_33 : decode cX2_named 33 = .ok (.ireturn, 1) := by decide +kernel
theorem dX2_named_34 : decode cX2_named 34 = .ok (.iload_n 2, 1) := by decide +kernel
theorem dX2_named_35 : decode cX2_named 35 = .ok (.ireturn, 1) := by decide +kernel
theorem dX2_named_36 : decode cX2_named 36 = .ok (.iload_n 3, 1) := by decide +kernel
theorem dX2_named_37 : decode cX2_named 37 = .ok (.ireturn, 1) := by decide +kernel
theorem dX2_named_38 : decode cX2_named 38 = .ok (.iload 4, 2) := by decide +kernel
theorem dX2_named_40 : decode cX2_named 40 = .ok (.ireturn, 1) := by decide +kernel
theorem dX2_named_41 : decode cX2_named 41 = .ok (.iload 5, 2) := by decide +kernel
theorem dX2_named_43 : decode cX2_named 43 = .ok (.ireturn, 1) := by decide +kernel
theorem dX3_init_0 : decode cX3_init 0 = .ok (.aload_n 0, 1) := by decide +kernel
theorem dX3_init_1 : decode cX3_init 1 = .ok (.invokespecial 3, 3) := by decide +kernel
theorem dX3_init_4 : decode cX3_init 4 = .ok (.aload_n 0, 1) := by decide +kernel
theorem dX3_init_5 : decode cX3_init 5 = .ok (.new 9, 3) := by decide +kernel
theorem dX3_init_8 : decode cX3_init 8 = .ok (.dup, 1) := by decide +kernel
theorem dX3_init_9 : decode cX3_init 9 = .ok (.invokespecial 11, 3) := by decide +kernel
theorem dX3_init_12 : decode cX3_init 12 = .ok (.putfield 12, 3) := by decide +kernel
theorem dX3_init_15 : decode cX3_init 15 = .ok (.aload_n 0, 1) := by decide +kernel
theorem dX3_init_16 : decode cX3_init 16 = .ok (.aconst_null, 1) := by decide +kernel
theorem dX3_init_17 : decode cX3_init 17 = .ok (.putfield 18, 3) := by decide +kernel
theorem dX3_init_20 : decode cX3_init 20 = .ok (.aload_n 0, 1) := by decide +kernel
theorem dX3_init_21 : decode cX3_init 21 = .ok (.iconst 5, 1) := by decide +kernel
theorem dX3_init_22 : decode cX3_init 22 = .ok (.anewarray 22, 3) := by decide +kernel
theorem dX3_init_25 : decode cX3_init 25 = .ok (.putfield 24, 3) := by decide +kernel
theorem dX3_init_28 : decode cX3_init 28 = .ok (.aload_n 0, 1) := by decide +kernel
theorem dX3_init_29 : decode cX3_init 29 = .ok (.iconst 4, 1) := by decide +kernel
theorem dX3_init_30 : decode cX3_init 30 = .ok (.newarray .int, 2) := by decide +kernel
theorem dX3_init_32 : decode cX3_init 32 = .ok (.putfield 28, 3) := by decide +kernel
theorem dX3_init_35 : decode cX3_init 35 = .ok (.aload_n 0, 1) := by decide +kernel
theorem dX3_init_36 : decode cX3_init 36 = .ok (.iconst 0, 1) := by decide +kernel
theorem dX3_init_37 : decode cX3_init 37 = .ok (.putfield 32, 3) := by decide +kernel
theorem dX3_init_40 : decode cX3_init 40 = .ok (.aload_n 0, 1) := by decide +kernel
theorem dX3_init_41 : decode cX3_init 41 = .ok (.iconst 4, 1) := by decide +kernel
theorem dX3_init_42 : decode cX3_init 42 = .ok (.newarray .int, 2) := by decide +kernel
theorem dX3_init_44 : decode cX3_init 44 = .ok (.putfield 36, 3) := by decide +kernel
theorem dX3_init_47 : decode cX3_init 47 = .ok (.aload_n 0, 1) := by decide +kernel
theorem dX3_init_48 : decode cX3_init 48 = .ok (.iconst 0, 1) := by decide +kernel
theorem dX3_init_49 : decode cX3_init 49 = .ok (.putfield 39, 3) := by decide +kernel
theorem dX3_init_52 : decode cX3_init 52 = .ok (.aload_n 0, 1) := by decide +kernel
theorem dX3_init_53 : decode cX3_init 53 = .ok (.iconst 0, 1) := by decide +kernel
theorem dX3_init_54 : decode cX3_init 54 = .ok (.putfield 42, 3) := by decide +kernel
theorem dX3_init_57 : decode cX3_init 57 = .ok (.iconst 0, 1) := by decide +kernel
theorem dX3_init_58 : decode cX3_init 58 = .ok (.istore_n 1, 1) := by decide +kernel
theorem dX3_init_59 : decode cX3_init 59 = .ok (.iload_n 1, 1) := by decide +kernel
theorem dX3_init_60 : decode cX3_init 60 = .ok (.aload_n 0, 1) := by decide +kernel
theorem dX3_init_61 : decode cX3_init 61 = .ok (.getfield 24, 3) := by decide +kernel
theorem dX3_init_64 : decode cX3_init 64 = .ok (.arraylength, 1) := by decide +kernel
theorem dX3_init_65 : decode cX3_init 65 = .ok (.if_icmp .ge 22, 3) := by decide +kernel
theorem dX3_init_68 : decode cX3_init 68 = .ok (.aload_n 0, 1) := by decide +kernel
theorem dX3_init_69 : decode cX3_init 69 = .ok (.getfield 24, 3) := by decide +kernel
theorem dX3_init_72 : decode cX3_init 72 = .ok (.iload_n 1, 1) := by decide +kernel
theorem dX3_init_73 : decode cX3_init 73 = .ok (.new 22, 3) := by decide +kernel
theorem dX3_init_76 : decode cX3_init 76 = .ok (.dup, 1) := by decide +kernel
theorem dX3_init_77 : decode cX3_init 77 = .ok (.invokespecial 45, 3) := by decide +kernel
theorem dX3_init_80 : decode cX3_init 80 = .ok (.aastore, 1) := by decide +kernel
theorem dX3_init_81 : decode cX3_init 81 = .ok (.iinc 1 1, 3) := by decide +kernel
theorem dX3_init_84 : decode cX3_init 84 = .ok (.goto (-25), 3) := by decide +kernel
theorem dX3_init_87 : decode cX3_init 87 = .ok (.return_, 1) := by decide +kernel
theorem dX3_begin_0 : decode cX3_begin 0 = .ok (.aload_n 0, 1) := by decide +kernel
theorem dX3_begin_1 : decode cX3_begin 1 = .ok (.getfield 12, 3) := by decide +kernel
theorem dX3_begin_4 : decode cX3_begin 4 = .ok (.aload_n 1, 1) := by decide +kernel
theorem dX3_begin_5 : decode cX3_begin 5 = .ok (.invokevirtual 46, 3) := by decide +kernel
theorem dX3_begin_8 : decode cX3_begin 8 = .ok (.aload_n 0, 1) := by decide +kernel
theorem dX3_begin_9 : decode cX3_begin 9 = .ok (.aload_n 2, 1) := by decide +kernel
theorem dX3_begin_10 : decode cX3_begin 10 = .ok (.putfield 18, 3) := by decide +kernel
theorem dX3_begin_13 : decode cX3_begin 13 = .ok (.aload_n 0, 1) := by decide +kernel
theorem dX3_begin_14 : decode cX3_begin 14 = .ok (.iload_n 3, 1) := by decide +kernel
theorem dX3_begin_15 : decode cX3_begin 15 = .ok (.putfield 32, 3) := by decide +kernel
theorem dX3_begin_18 : decode cX3_begin 18 = .ok (.aload_n 0, 1) := by decide +kernel
theorem dX3_begin_19 : decode cX3_begin 19 = .ok (.iconst 0, 1) := by decide +kernel
theorem dX3_begin_20 : decode cX3_begin 20 = .ok (.putfield 39, 3) := by decide +kernel
theorem dX3_begin_23 : decode cX3_begin 23 = .ok (.aload_n 0, 1) := by decide +kernel
theorem dX3_begin_24 : decode cX3_begin 24 = .ok (.ldc 52, 2) := by decide +kernel
theorem dX3_begin_26 : decode cX3_begin 26 = .ok (.putfield 42, 3) := by decide +kernel
theorem dX3_begin_29 : decode cX3_begin 29 = .ok (.aload_n 0, 1) := by decide +kernel
theorem dX3_begin_30 : decode cX3_begin 30 = .ok (.getfield 24, 3) := by decide +kernel
theorem dX3_begin_33 : decode cX3_begin 33 = .ok (.iconst 0, 1) := by decide +kernel
theorem dX3_begin_34 : decode cX3_begin 34 = .ok (.aaload, 1) := by decide +kernel
theorem dX3_begin_35 : decode cX3_begin 35 = .ok (.aload_n 0, 1) := by decide +kernel
theorem dX3_begin_36 : decode cX3_begin 36 = .ok (.getfield 12, 3) := by decide +kernel
theorem dX3_begin_39 : decode cX3_begin 39 = .ok (.invokevirtual 53, 3) := by decide +kernel
theorem dX3_begin_42 : decode cX3_begin 42 = .ok (.aload_n 0, 1) := by decide +kernel
theorem dX3_begin_43 : decode cX3_begin 43 = .ok (.getfield 24, 3) := by decide +kernel
theorem dX3_begin_46 : decode cX3_begin 46 = .ok (.iconst 0, 1) := by decide +kernel
theorem dX3_begin_47 : decode cX3_begin 47 = .ok (.aaload, 1) := by decide +kernel
theorem dX3_begin_48 : decode cX3_begin 48 = .ok (.iconst 1, 1) := by decide +kernel
theorem dX3_begin_49 : decode cX3_begin 49 = .ok (.putfield 56, 3) := by decide +kernel
theorem dX3_begin_52 : decode cX3_begin 52 = .ok (.return_, 1) := by decide +kernel
theorem dX3_carries_0 : decode cX3_carries 0 = .ok (.iload_n 1, 1) := by decide +kernel
theorem dX3_carries_1 : decode cX3_carries 1 = .ok (.iconst 0, 1) := by decide +kernel
theorem dX3_carries_2 : decode cX3_carries 2 = .ok (.iconst 3, 1) := by decide +kernel
theorem dX3_carries_3 : decode cX3_carries 3 = .ok (.invokestatic 59, 3) := by decide +kernel
theorem dX3_carries_6 : decode cX3_carries 6 = .ok (.ifCond .ne 5, 3) := by decide +kernel
theorem dX3_carries_9 : decode cX3_carries 9 = .ok (.iconst 0, 1) := by decide +kernel
theorem dX3_carries_10 : decode cX3_carries 10 = .ok (.ireturn, 1) := by decide +kernel
theorem dX3_carries_11 : decode cX3_carries 11 = .ok (.aload_n 0, 1) := by decide +kernel
theorem dX3_carries_12 : decode cX3_carries 12 = .ok (.getfield 24, 3) := by decide +kernel
theorem dX3_carries_15 : decode cX3_carries 15 = .ok (.iload_n 1, 1) := by decide +kernel
theorem dX3_carries_16 : decode cX3_carries 16 = .ok (.iconst 1, 1) := by decide +kernel
theorem dX3_carries_17 : decode cX3_carries 17 = .ok (.iadd, 1) := by decide +kernel
theorem dX3_carries_18 : decode cX3_carries 18 = .ok (.aaload, 1) := by decide +kernel
theorem dX3_carries_19 : decode cX3_carries 19 = .ok (.astore_n 3, 1) := by decide +kernel
theorem dX3_carries_20 : decode cX3_carries 20 = .ok (.aload_n 3, 1) := by decide +kernel
theorem dX3_carries_21 : decode cX3_carries 21 = .ok (.aload_n 0, 1) := by decide +kernel
theorem dX3_carries_22 : decode cX3_carries 22 = .ok (.getfield 24, 3) := by decide +kernel
theorem dX3_carries_25 : decode cX3_carries 25 = .ok (.iload_n 1, 1) := by decide +kernel
theorem dX3_carries_26 : decode cX3_carries 26 = .ok (.aaload, 1) := by decide +kernel
theorem dX3_carries_27 : decode cX3_carries 27 = .ok (.invokevirtual 63, 3) := by decide +kernel
theorem dX3_carries_30 : decode cX3_carries 30 = .ok (.iconst 0, 1) := by decide +kernel
theorem dX3_carries_31 : decode cX3_carries 31 = .ok (.istore 4, 2) := by decide +kernel
theorem dX3_carries_33 : decode cX3_carries 33 = .ok (.iload 4, 2) := by decide +kernel
theorem dX3_carries_35 : decode cX3_carries 35 = .ok (.aload_n 2, 1) := by decide +kernel
theorem dX3_carries_36 : decode cX3_carries 36 = .ok (.getfield 66, 3) := by decide +kernel
theorem dX3_carries_39 : decode cX3_carries 39 = .ok (.if_icmp .ge 30, 3) := by decide +kernel
theorem dX3_carries_42 : decode cX3_carries 42 = .ok (.aload_n 3, 1) := by decide +kernel
theorem dX3_carries_43 : decode cX3_carries 43 = .ok (.aload_n 0, 1) := by decide +kernel
theorem dX3_carries_44 : decode cX3_carries 44 = .ok (.getfield 12, 3) := by decide +kernel
theorem dX3_carries_47 : decode cX3_carries 47 = .ok (.aload_n 0, 1) := by decide +kernel
theorem dX3_carries_48 : decode cX3_carries 48 = .ok (.getfield 18, 3) := by decide +kernel
theorem dX3_carries_51 : decode cX3_carries 51 = .ok (.aload_n 2, 1) := by decide +kernel
theorem dX3_carries_52 : decode cX3_carries 52 = .ok (.iload 4, 2) := by decide +kernel
theorem dX3_carries_54 : decode cX3_carries 54 = .ok (.iconst 0, 1) := by decide +kernel
theorem dX3_carries_55 : decode cX3_carries 55 = .ok (.invokevirtual 71, 3) := by decide +kernel
theorem dX3_carries_58 : decode cX3_carries 58 = .ok (.ifCond .le 5, 3) := by decide +kernel
theorem dX3_carries_61 : decode cX3_carries 61 = .ok (.iconst 0, 1) := by decide +kernel
theorem dX3_carries_62 : decode cX3_carries 62 = .ok (.ireturn, 1) := by decide +kernel
theorem dX3_carries_63 : decode cX3_carries 63 = .ok (.iinc 4 1, 3) := by decide +kernel
theorem dX3_carries_66 : decode cX3_carries 66 = .ok (.goto (-33), 3) := by decide +kernel
theorem dX3_carries_69 : decode cX3_carries 69 = .ok (.iconst 1, 1) := by decide +kernel
theorem dX3_carries_70 : decode cX3_carries 70 = .ok (.ireturn, 1) := by decide +kernel
theorem dX3_choose_0 : decode cX3_choose 0 = .ok (.iload_n 1, 1) := by decide +kernel
theorem dX3_choose_1 : decode cX3_choose 1 = .ok (.iconst 0, 1) := by decide +kernel
theorem dX3_choose_2 : decode cX3_choose 2 = .ok (.iconst 3, 1) := by decide +kernel
theorem dX3_choose_3 : decode cX3_choose 3 = .ok (.invokestatic 59, 3) := by decide +kernel
theorem dX3_choose_6 : decode cX3_choose 6 = .ok (.ifCond .eq 10, 3) := by decide +kernel
theorem dX3_choose_9 : decode cX3_choose 9 = .ok (.aload_n 0, 1) := by decide +kernel
theorem dX3_choose_10 : decode cX3_choose 10 = .ok (.getfield 28, 3) := by decide +kernel
theorem dX3_choose_13 : decode cX3_choose 13 = .ok (.iload_n 1, 1) := by decide +kernel
theorem dX3_choose_14 : decode cX3_choose 14 = .ok (.iload_n 2, 1) := by decide +kernel
theorem dX3_choose_15 : decode cX3_choose 15 = .ok (.iastore, 1) := by decide +kernel
theorem dX3_choose_16 : decode cX3_choose 16 = .ok (.return_, 1) := by decide +kernel
theorem dX3_noteBest_0 : decode cX3_noteBest 0 = .ok (.aload_n 0, 1) := by decide +kernel
theorem dX3_noteBest_1 : decode cX3_noteBest 1 = .ok (.iload_n 1, 1) := by decide +kernel
theorem dX3_noteBest_2 : decode cX3_noteBest 2 = .ok (.putfield 39, 3) := by decide +kernel
theorem dX3_noteBest_5 : decode cX3_noteBest 5 = .ok (.aload_n 0, 1) := by decide +kernel
theorem dX3_noteBest_6 : decode cX3_noteBest 6 = .ok (.iload_n 2, 1) := by decide +kernel
theorem dX3_noteBest_7 : decode cX3_noteBest 7 = .ok (.putfield 42, 3) := by decide +kernel
theorem dX3_noteBest_10 : decode cX3_noteBest 10 = .ok (.aload_n 0, 1) := by decide +kernel
theorem dX3_noteBest_11 : decode cX3_noteBest 11 = .ok (.getfield 28, 3) := by decide +kernel
theorem dX3_noteBest_14 : decode cX3_noteBest 14 = .ok (.iconst 0, 1) := by decide +kernel
theorem dX3_noteBest_15 : decode cX3_noteBest 15 = .ok (.aload_n 0, 1) := by decide +kernel
theorem dX3_noteBest_16 : decode cX3_noteBest 16 = .ok (.getfield 36, 3) := by decide +kernel
theorem dX3_noteBest_19 : decode cX3_noteBest 19 = .ok (.iconst 0, 1) := by decide +kernel
theorem dX3_noteBest_20 : decode cX3_noteBest 20 = .ok (.aload_n 0, 1) := by decide +kernel
theorem dX3_noteBest_21 : decode cX3_noteBest 21 = .ok (.getfield 28, 3) := by decide +kernel
theorem dX3_noteBest_24 : decode cX3_noteBest 24 = .ok (.arraylength, 1) := by decide +kernel
theorem dX3_noteBest_25 : decode cX3_noteBest 25 = .ok (.invokestatic 75, 3) := by decide +kernel
theorem dX3_noteBest_28 : decode cX3_noteBest 28 = .ok (.return_, 1) := by decide +kernel
theorem dX4_init_0 : decode cX4_init 0 = .ok (.aload_n 0, 1) := by decide +kernel
theorem dX4_init_1 : decode cX4_init 1 = .ok (.invokespecial 3, 3) := by decide +kernel
theorem dX4_init_4 : decode cX4_init 4 = .ok (.aload_n 0, 1) := by decide +kernel
theorem dX4_init_5 : decode cX4_init 5 = .ok (.bipush 20, 2) := by decide +kernel
theorem dX4_init_7 : decode cX4_init 7 = .ok (.newarray .int, 2) := by decide +kernel
theorem dX4_init_9 : decode cX4_init 9 = .ok (.putfield 9, 3) := by decide +kernel
theorem dX4_init_12 : decode cX4_init 12 = .ok (.aload_n 0, 1) := by decide +kernel
theorem dX4_init_13 : decode cX4_init 13 = .ok (.bipush 20, 2) := by decide +kernel
theorem dX4_init_15 : decode cX4_init 15 = .ok (.newarray .int, 2) := by decide +kernel
theorem dX4_init_17 : decode cX4_init 17 = .ok (.putfield 15, 3) := by decide +kernel
theorem dX4_init_20 : decode cX4_init 20 = .ok (.aload_n 0, 1) := by decide +kernel
theorem dX4_init_21 : decode cX4_init 21 = .ok (.iconst 0, 1) := by decide +kernel
theorem dX4_init_22 : decode cX4_init 22 = .ok (.putfield 18, 3) := by decide +kernel
theorem dX4_init_25 : decode cX4_init 25 = .ok (.return_, 1) := by decide +kernel
theorem dX4_freshen_0 : decode cX4_freshen 0 = .ok (.aload_n 0, 1) := by decide +kernel
theorem dX4_freshen_1 : decode cX4_freshen 1 = .ok (.getfield 9, 3) := by decide +kernel
theorem dX4_freshen_4 : decode cX4_freshen 4 = .ok (.aload_n 1, 1) := by decide +kernel
theorem dX4_freshen_5 : decode cX4_freshen 5 = .ok (.getfield 22, 3) := by decide +kernel
theorem dX4_freshen_8 : decode cX4_freshen 8 = .ok (.invokestatic 27, 3) := by decide +kernel
theorem dX4_freshen_11 : decode cX4_freshen 11 = .ok (.aload_n 0, 1) := by decide +kernel
theorem dX4_freshen_12 : decode cX4_freshen 12 = .ok (.getfield 15, 3) := by decide +kernel
theorem dX4_freshen_15 : decode cX4_freshen 15 = .ok (.iconst 0, 1) := by decide +kernel
theorem dX4_freshen_16 : decode cX4_freshen 16 = .ok (.invokestatic 27, 3) := by decide +kernel
theorem dX4_freshen_19 : decode cX4_freshen 19 = .ok (.aload_n 0, 1) := by decide +kernel
theorem dX4_freshen_20 : decode cX4_freshen 20 = .ok (.iconst 0, 1) := by decide +kernel
theorem dX4_freshen_21 : decode cX4_freshen 21 = .ok (.putfield 18, 3) := by decide +kernel
theorem dX4_freshen_24 : decode cX4_freshen 24 = .ok (.return_, 1) := by decide +kernel
theorem dX4_copy_0 : decode cX4_copy 0 = .ok (.aload_n 1, 1) := by decide +kernel
theorem dX4_copy_1 : decode cX4_copy 1 = .ok (.getfield 9, 3) := by decide +kernel
theorem dX4_copy_4 : decode cX4_copy 4 = .ok (.iconst 0, 1) := by decide +kernel
theorem dX4_copy_5 : decode cX4_copy 5 = .ok (.aload_n 0, 1) := by decide +kernel
theorem dX4_copy_6 : decode cX4_copy 6 = .ok (.getfield 9, 3) := by decide +kernel
theorem dX4_copy_9 : decode cX4_copy 9 = .ok (.iconst 0, 1) := by decide +kernel
theorem dX4_copy_10 : decode cX4_copy 10 = .ok (.aload_n 0, 1) := by decide +kernel
theorem dX4_copy_11 : decode cX4_copy 11 = .ok (.getfield 9, 3) := by decide +kernel
theorem dX4_copy_14 : decode cX4_copy 14 = .ok (.arraylength, 1) := by decide +kernel
theorem dX4_copy_15 : decode cX4_copy 15 = .ok (.invokestatic 32, 3) := by decide +kernel
theorem dX4_copy_18 : decode cX4_copy 18 = .ok (.aload_n 1, 1) := by decide +kernel
theorem dX4_copy_19 : decode cX4_copy 19 = .ok (.getfield 15, 3) := by decide +kernel
theorem dX4_copy_22 : decode cX4_copy 22 = .ok (.iconst 0, 1) := by decide +kernel
theorem dX4_copy_23 : decode cX4_copy 23 = .ok (.aload_n 0, 1) := by decide +kernel
theorem dX4_copy_24 : decode cX4_copy 24 = .ok (.getfield 15, 3) := by decide +kernel
theorem dX4_copy_27 : decode cX4_copy 27 = .ok (.iconst 0, 1) := by decide +kernel
theorem dX4_copy_28 : decode cX4_copy 28 = .ok (.aload_n 0, 1) := by decide +kernel
theorem dX4_copy_29 : decode cX4_copy 29 = .ok (.getfield 15, 3) := by decide +kernel
theorem dX4_copy_32 : decode cX4_copy 32 = .ok (.arraylength, 1) := by decide +kernel
theorem dX4_copy_33 : decode cX4_copy 33 = .ok (.invokestatic 32, 3) := by decide +kernel
theorem dX4_copy_36 : decode cX4_copy 36 = .ok (.aload_n 0, 1) := by decide +kernel
theorem dX4_copy_37 : decode cX4_copy 37 = .ok (.aload_n 1, 1) := by decide +kernel
theorem dX4_copy_38 : decode cX4_copy 38 = .ok (.getfield 18, 3) := by decide +kernel
theorem dX4_copy_41 : decode cX4_copy 41 = .ok (.putfield 18, 3) := by decide +kernel
theorem dX4_copy_44 : decode cX4_copy 44 = .ok (.return_, 1) := by decide +kernel
theorem dX4_lean_0 : decode cX4_lean 0 = .ok (.iconst 1, 1) := by decide +kernel
theorem dX4_lean_1 : decode cX4_lean 1 = .ok (.aload_n 1, 1) := by decide +kernel
theorem dX4_lean_2 : decode cX4_lean 2 = .ok (.getfield 38, 3) := by decide +kernel
theorem dX4_lean_5 : decode cX4_lean 5 = .ok (.invokestatic 41, 3) := by decide +kernel
theorem dX4_lean_8 : decode cX4_lean 8 = .ok (.istore_n 3, 1) := by decide +kernel
theorem dX4_lean_9 : decode cX4_lean 9 = .ok (.iconst 0, 1) := by decide +kernel
theorem dX4_lean_10 : decode cX4_lean 10 = .ok (.istore 4, 2) := by decide +kernel
theorem dX4_lean_12 : decode cX4_lean 12 = .ok (.iload 4, 2) := by decide +kernel
theorem dX4_lean_14 : decode cX4_lean 14 = .ok (.iload_n 3, 1) := by decide +kernel
theorem dX4_lean_15 : decode cX4_lean 15 = .ok (.if_icmp .gt 39, 3) := by decide +kernel
theorem dX4_lean_18 : decode cX4_lean 18 = .ok (.aload_n 0, 1) := by decide +kernel
theorem dX4_lean_19 : decode cX4_lean 19 = .ok (.getfield 9, 3) := by decide +kernel
theorem dX4_lean_22 : decode cX4_lean 22 = .ok (.iload 4, 2) := by decide +kernel
theorem dX4_lean_24 : decode cX4_lean 24 = .ok (.aload_n 1, 1) := by decide +kernel
theorem dX4_lean_25 : decode cX4_lean 25 = .ok (.getfield 22, 3) := by decide +kernel
theorem dX4_lean_28 : decode cX4_lean 28 = .ok (.iload_n 2, 1) := by decide +kernel
theorem dX4_lean_29 : decode cX4_lean 29 = .ok (.iload_n 3, 1) := by decide +kernel
theorem dX4_lean_30 : decode cX4_lean 30 = .ok (.iconst 2, 1) := by decide +kernel
theorem dX4_lean_31 : decode cX4_lean 31 = .ok (.iload 4, 2) := by decide +kernel
theorem dX4_lean_33 : decode cX4_lean 33 = .ok (.imul, 1) := by decide +kernel
theorem dX4_lean_34 : decode cX4_lean 34 = .ok (.isub, 1) := by decide +kernel
theorem dX4_lean_35 : decode cX4_lean 35 = .ok (.imul, 1) := by decide +kernel
theorem dX4_lean_36 : decode cX4_lean 36 = .ok (.iload_n 3, 1) := by decide +kernel
theorem dX4_lean_37 : decode cX4_lean 37 = .ok (.idiv, 1) := by decide +kernel
theorem dX4_lean_38 : decode cX4_lean 38 = .ok (.iadd, 1) := by decide +kernel
theorem dX4_lean_39 : decode cX4_lean 39 = .ok (.iconst 0, 1) := by decide +kernel
theorem dX4_lean_40 : decode cX4_lean 40 = .ok (.aload_n 1, 1) := by decide +kernel
theorem dX4_lean_41 : decode cX4_lean 41 = .ok (.getfield 47, 3) := by decide +kernel
theorem dX4_lean_44 : decode cX4_lean 44 = .ok (.invokestatic 50, 3) := by decide +kernel
theorem dX4_lean_47 : decode cX4_lean 47 = .ok (.iastore, 1) := by decide +kernel
theorem dX4_lean_48 : decode cX4_lean 48 = .ok (.iinc 4 1, 3) := by decide +kernel
theorem dX4_lean_51 : decode cX4_lean 51 = .ok (.goto (-39), 3) := by decide +kernel
theorem dX4_lean_54 : decode cX4_lean 54 = .ok (.aload_n 0, 1) := by decide +kernel
theorem dX4_lean_55 : decode cX4_lean 55 = .ok (.getfield 15, 3) := by decide +kernel
theorem dX4_lean_58 : decode cX4_lean 58 = .ok (.iconst 0, 1) := by decide +kernel
theorem dX4_lean_59 : decode cX4_lean 59 = .ok (.invokestatic 27, 3) := by decide +kernel
theorem dX4_lean_62 : decode cX4_lean 62 = .ok (.return_, 1) := by decide +kernel
theorem dX4_pass_0 : decode cX4_pass 0 = .ok (.aload_n 0, 1) := by decide +kernel
theorem dX4_pass_1 : decode cX4_pass 1 = .ok (.aload_n 1, 1) := by decide +kernel
theorem dX4_pass_2 : decode cX4_pass 2 = .ok (.iload_n 2, 1) := by decide +kernel
theorem dX4_pass_3 : decode cX4_pass 3 = .ok (.invokevirtual 54, 3) := by decide +kernel
theorem dX4_pass_6 : decode cX4_pass 6 = .ok (.iconst 0, 1) := by decide +kernel
theorem dX4_pass_7 : decode cX4_pass 7 = .ok (.istore_n 3, 1) := by decide +kernel
theorem dX4_pass_8 : decode cX4_pass 8 = .ok (.iload_n 3, 1) := by decide +kernel
theorem dX4_pass_9 : decode cX4_pass 9 = .ok (.aload_n 1, 1) := by decide +kernel
theorem dX4_pass_10 : decode cX4_pass 10 = .ok (.getfield 38, 3) := by decide +kernel
theorem dX4_pass_13 : decode cX4_pass 13 = .ok (.if_icmp .ge 14, 3) := by decide +kernel
theorem dX4_pass_16 : decode cX4_pass 16 = .ok (.aload_n 0, 1) := by decide +kernel
theorem dX4_pass_17 : decode cX4_pass 17 = .ok (.iload_n 3, 1) := by decide +kernel
theorem dX4_pass_18 : decode cX4_pass 18 = .ok (.invokevirtual 58, 3) := by decide +kernel
theorem dX4_pass_21 : decode cX4_pass 21 = .ok (.iinc 3 1, 3) := by decide +kernel
theorem dX4_pass_24 : decode cX4_pass 24 = .ok (.goto (-16), 3) := by decide +kernel
theorem dX4_pass_27 : decode cX4_pass 27 = .ok (.aload_n 0, 1) := by decide +kernel
theorem dX4_pass_28 : decode cX4_pass 28 = .ok (.aload_n 1, 1) := by decide +kernel
theorem dX4_pass_29 : decode cX4_pass 29 = .ok (.iconst 0, 1) := by decide +kernel
theorem dX4_pass_30 : decode cX4_pass 30 = .ok (.invokevirtual 62, 3) := by decide +kernel
theorem dX4_pass_33 : decode cX4_pass 33 = .ok (.aload_n 0, 1) := by decide +kernel
theorem dX4_pass_34 : decode cX4_pass 34 = .ok (.aload_n 1, 1) := by decide +kernel
theorem dX4_pass_35 : decode cX4_pass 35 = .ok (.aload_n 1, 1) := by decide +kernel
theorem dX4_pass_36 : decode cX4_pass 36 = .ok (.getfield 38, 3) := by decide +kernel
theorem dX4_pass_39 : decode cX4_pass 39 = .ok (.invokevirtual 62, 3) := by decide +kernel
theorem dX4_pass_42 : decode cX4_pass 42 = .ok (.iadd, 1) := by decide +kernel
theorem dX4_pass_43 : decode cX4_pass 43 = .ok (.istore_n 3, 1) := by decide +kernel
theorem dX4_pass_44 : decode cX4_pass 44 = .ok (.aload_n 0, 1) := by decide +kernel
theorem dX4_pass_45 : decode cX4_pass 45 = .ok (.dup, 1) := by decide +kernel
theorem dX4_pass_46 : decode cX4_pass 46 = .ok (.getfield 18, 3) := by decide +kernel
theorem dX4_pass_49 : decode cX4_pass 49 = .ok (.iload_n 3, 1) := by decide +kernel
theorem dX4_pass_50 : decode cX4_pass 50 = .ok (.iadd, 1) := by decide +kernel
theorem dX4_pass_51 : decode cX4_pass 51 = .ok (.putfield 18, 3) := by decide +kernel
theorem dX4_pass_54 : decode cX4_pass 54 = .ok (.iload_n 3, 1) := by decide +kernel
theorem dX4_pass_55 : decode cX4_pass 55 = .ok (.ireturn, 1) := by decide +kernel
theorem dX4_drive_0 : decode cX4_drive 0 = .ok (.aload_n 1, 1) := by decide +kernel
theorem dX4_drive_1 : decode cX4_drive 1 = .ok (.getfield 38, 3) := by decide +kernel
theorem dX4_drive_4 : decode cX4_drive 4 = .ok (.istore_n 3, 1) := by decide +kernel
theorem dX4_drive_5 : decode cX4_drive 5 = .ok (.aload_n 1, 1) := by decide +kernel
theorem dX4_drive_6 : decode cX4_drive 6 = .ok (.getfield 66, 3) := by decide +kernel
theorem dX4_drive_9 : decode cX4_drive 9 = .ok (.iconst 0, 1) := by decide +kernel
theorem dX4_drive_10 : decode cX4_drive 10 = .ok (.iaload, 1) := by decide +kernel
theorem dX4_drive_11 : decode cX4_drive 11 = .ok (.istore 4, 2) := by decide +kernel
theorem dX4_drive_13 : decode cX4_drive 13 = .ok (.bipush 100, 2) := by decide +kernel
theorem dX4_drive_15 : decode cX4_drive 15 = .ok (.aload_n 1, 1) := by decide +kernel
theorem dX4_drive_16 : decode cX4_drive 16 = .ok (.getfield 66, 3) := by decide +kernel
theorem dX4_drive_19 : decode cX4_drive 19 = .ok (.iconst 1, 1) := by decide +kernel
theorem dX4_drive_20 : decode cX4_drive 20 = .ok (.iaload, 1) := by decide +kernel
theorem dX4_drive_21 : decode cX4_drive 21 = .ok (.aload_n 1, 1) := by decide +kernel
theorem dX4_drive_22 : decode cX4_drive 22 = .ok (.getfield 66, 3) := by decide +kernel
theorem dX4_drive_25 : decode cX4_drive 25 = .ok (.iconst 2, 1) := by decide +kernel
theorem dX4_drive_26 : decode cX4_drive 26 = .ok (.iaload, 1) := by decide +kernel
theorem dX4_drive_27 : decode cX4_drive 27 = .ok (.aload_n 1, 1) := by decide +kernel
theorem dX4_drive_28 : decode cX4_drive 28 = .ok (.getfield 66, 3) := by decide +kernel
theorem dX4_drive_31 : decode cX4_drive 31 = .ok (.iconst 3, 1) := by decide +kernel
theorem dX4_drive_32 : decode cX4_drive 32 = .ok (.iaload, 1) := by decide +kernel
theorem dX4_drive_33 : decode cX4_drive 33 = .ok (.imul, 1) := by decide +kernel
theorem dX4_drive_34 : decode cX4_drive 34 = .ok (.iadd, 1) := by decide +kernel
theorem dX4_drive_35 : decode cX4_drive 35 = .ok (.invokestatic 69, 3) := by decide +kernel
theorem dX4_drive_38 : decode cX4_drive 38 = .ok (.istore 5, 2) := by decide +kernel
theorem dX4_drive_40 : decode cX4_drive 40 = .ok (.iconst 0, 1) := by decide +kernel
theorem dX4_drive_41 : decode cX4_drive 41 = .ok (.istore 6, 2) := by decide +kernel
theorem dX4_drive_43 : decode cX4_drive 43 = .ok (.iload 6, 2) := by decide +kernel
theorem dX4_drive_45 : decode cX4_drive 45 = .ok (.iload_n 3, 1) := by decide +kernel
theorem dX4_drive_46 : decode cX4_drive 46 = .ok (.if_icmp .ge 86, 3) := by decide +kernel
theorem dX4_drive_49 : decode cX4_drive 49 = .ok (.aload_n 0, 1) := by decide +kernel
theorem dX4_drive_50 : decode cX4_drive 50 = .ok (.getfield 15, 3) := by decide +kernel
theorem dX4_drive_53 : decode cX4_drive 53 = .ok (.iload 6, 2) := by decide +kernel
theorem dX4_drive_55 : decode cX4_drive 55 = .ok (.iaload, 1) := by decide +kernel
theorem dX4_drive_56 : decode cX4_drive 56 = .ok (.iload 4, 2) := by decide +kernel
theorem dX4_drive_58 : decode cX4_drive 58 = .ok (.aload_n 0, 1) := by decide +kernel
theorem dX4_drive_59 : decode cX4_drive 59 = .ok (.getfield 9, 3) := by decide +kernel
theorem dX4_drive_62 : decode cX4_drive 62 = .ok (.iload 6, 2) := by decide +kernel
theorem dX4_drive_64 : decode cX4_drive 64 = .ok (.iaload, 1) := by decide +kernel
theorem dX4_drive_65 : decode cX4_drive 65 = .ok (.aload_n 0, 1) := by decide +kernel
theorem dX4_drive_66 : decode cX4_drive 66 = .ok (.getfield 9, 3) := by decide +kernel
theorem dX4_drive_69 : decode cX4_drive 69 = .ok (.iload 6, 2) := by decide +kernel
theorem dX4_drive_71 : decode cX4_drive 71 = .ok (.iconst 1, 1) := by decide +kernel
theorem dX4_drive_72 : decode cX4_drive 72 = .ok (.iadd, 1) := by decide +kernel
theorem dX4_drive_73 : decode cX4_drive 73 = .ok (.iaload, 1) := by decide +kernel
theorem dX4_drive_74 : decode cX4_drive 74 = .ok (.isub, 1) := by decide +kernel
theorem dX4_drive_75 : decode cX4_drive 75 = .ok (.imul, 1) := by decide +kernel
theorem dX4_drive_76 : decode cX4_drive 76 = .ok (.bipush 16, 2) := by decide +kernel
theorem dX4_drive_78 : decode cX4_drive 78 = .ok (.idiv, 1) := by decide +kernel
theorem dX4_drive_79 : decode cX4_drive 79 = .ok (.iadd, 1) := by decide +kernel
theorem dX4_drive_80 : decode cX4_drive 80 = .ok (.iload_n 2, 1) := by decide +kernel
theorem dX4_drive_81 : decode cX4_drive 81 = .ok (.iadd, 1) := by decide +kernel
theorem dX4_drive_82 : decode cX4_drive 82 = .ok (.istore 7, 2) := by decide +kernel
theorem dX4_drive_84 : decode cX4_drive 84 = .ok (.iload 7, 2) := by decide +kernel
theorem dX4_drive_86 : decode cX4_drive 86 = .ok (.iload 7, 2) := by decide +kernel
theorem dX4_drive_88 : decode cX4_drive 88 = .ok (.iload 5, 2) := by decide +kernel
theorem dX4_drive_90 : decode cX4_drive 90 = .ok (.imul, 1) := by decide +kernel
theorem dX4_drive_91 : decode cX4_drive 91 = .ok (.bipush 100, 2) := by decide +kernel
theorem dX4_drive_93 : decode cX4_drive 93 = .ok (.idiv, 1) := by decide +kernel
theorem dX4_drive_94 : decode cX4_drive 94 = .ok (.isub, 1) := by decide +kernel
theorem dX4_drive_95 : decode cX4_drive 95 = .ok (.istore 7, 2) := by decide +kernel
theorem dX4_drive_97 : decode cX4_drive 97 = .ok (.aload_n 0, 1) := by decide +kernel
theorem dX4_drive_98 : decode cX4_drive 98 = .ok (.getfield 15, 3) := by decide +kernel
theorem dX4_drive_101 : decode cX4_drive 101 = .ok (.iload 6, 2) := by decide +kernel
theorem dX4_drive_103 : decode cX4_drive 103 = .ok (.iload 7, 2) := by decide +kernel
theorem dX4_drive_105 : decode cX4_drive 105 = .ok (.aload_n 1, 1) := by decide +kernel
theorem dX4_drive_106 : decode cX4_drive 106 = .ok (.getfield 72, 3) := by decide +kernel
theorem dX4_drive_109 : decode cX4_drive 109 = .ok (.iload 6, 2) := by decide +kernel
theorem dX4_drive_111 : decode cX4_drive 111 = .ok (.iaload, 1) := by decide +kernel
theorem dX4_drive_112 : decode cX4_drive 112 = .ok (.imul, 1) := by decide +kernel
theorem dX4_drive_113 : decode cX4_drive 113 = .ok (.bipush 100, 2) := by decide +kernel
theorem dX4_drive_115 : decode cX4_drive 115 = .ok (.idiv, 1) := by decide +kernel
theorem dX4_drive_116 : decode cX4_drive 116 = .ok (.sipush (-8000), 3) := by decide +kernel
theorem dX4_drive_119 : decode cX4_drive 119 = .ok (.sipush 8000, 3) := by decide +kernel
theorem dX4_drive_122 : decode cX4_drive 122 = .ok (.invokestatic 50, 3) := by decide +kernel
theorem dX4_drive_125 : decode cX4_drive 125 = .ok (.iastore, 1) := by decide +kernel
theorem dX4_drive_126 : decode cX4_drive 126 = .ok (.iinc 6 1, 3) := by decide +kernel
theorem dX4_drive_129 : decode cX4_drive 129 = .ok (.goto (-86), 3) := by decide +kernel
theorem dX4_drive_132 : decode cX4_drive 132 = .ok (.return_, 1) := by decide +kernel
theorem dX4_move_0 : decode cX4_move 0 = .ok (.aload_n 0, 1) := by decide +kernel
theorem dX4_move_1 : decode cX4_move 1 = .ok (.getfield 15, 3) := by decide +kernel
theorem dX4_move_4 : decode cX4_move 4 = .ok (.iload_n 1, 1) := by decide +kernel
theorem dX4_move_5 : decode cX4_move 5 = .ok (.iaload, 1) := by decide +kernel
theorem dX4_move_6 : decode cX4_move 6 = .ok (.bipush 8, 2) := by decide +kernel
theorem dX4_move_8 : decode cX4_move 8 = .ok (.idiv, 1) := by decide +kernel
theorem dX4_move_9 : decode cX4_move 9 = .ok (.istore_n 2, 1) := by decide +kernel
theorem dX4_move_10 : decode cX4_move 10 = .ok (.iload_n 2, 1) := by decide +kernel
theorem dX4_move_11 : decode cX4_move 11 = .ok (.aload_n 0, 1) := by decide +kernel
theorem dX4_move_12 : decode cX4_move 12 = .ok (.getfield 9, 3) := by decide +kernel
theorem dX4_move_15 : decode cX4_move 15 = .ok (.iload_n 1, 1) := by decide +kernel
theorem dX4_move_16 : decode cX4_move 16 = .ok (.iconst 1, 1) := by decide +kernel
theorem dX4_move_17 : decode cX4_move 17 = .ok (.iadd, 1) := by decide +kernel
theorem dX4_move_18 : decode cX4_move 18 = .ok (.iaload, 1) := by decide +kernel
theorem dX4_move_19 : decode cX4_move 19 = .ok (.ineg, 1) := by decide +kernel
theorem dX4_move_20 : decode cX4_move 20 = .ok (.aload_n 0, 1) := by decide +kernel
theorem dX4_move_21 : decode cX4_move 21 = .ok (.getfield 9, 3) := by decide +kernel
theorem dX4_move_24 : decode cX4_move 24 = .ok (.iload_n 1, 1) := by decide +kernel
theorem dX4_move_25 : decode cX4_move 25 = .ok (.iaload, 1) := by decide +kernel
theorem dX4_move_26 : decode cX4_move 26 = .ok (.invokestatic 50, 3) := by decide +kernel
theorem dX4_move_29 : decode cX4_move 29 = .ok (.istore_n 3, 1) := by decide +kernel
theorem dX4_move_30 : decode cX4_move 30 = .ok (.iload_n 3, 1) := by decide +kernel
theorem dX4_move_31 : decode cX4_move 31 = .ok (.iload_n 2, 1) := by decide +kernel
theorem dX4_move_32 : decode cX4_move 32 = .ok (.if_icmp .eq 13, 3) := by decide +kernel
theorem dX4_move_35 : decode cX4_move 35 = .ok (.aload_n 0, 1) := by decide +kernel
theorem dX4_move_36 : decode cX4_move 36 = .ok (.getfield 15, 3) := by decide +kernel
theorem dX4_move_39 : decode cX4_move 39 = .ok (.iload_n 1, 1) := by decide +kernel
theorem dX4_move_40 : decode cX4_move 40 = .ok (.bipush 8, 2) := by decide +kernel
theorem dX4_move_42 : decode cX4_move 42 = .ok (.iload_n 3, 1) := by decide +kernel
theorem dX4_move_43 : decode cX4_move 43 = .ok (.imul, 1) := by decide +kernel
theorem dX4_move_44 : decode cX4_move 44 = .ok (.iastore, 1) := by decide +kernel
theorem dX4_move_45 : decode cX4_move 45 = .ok (.aload_n 0, 1) := by decide +kernel
theorem dX4_move_46 : decode cX4_move 46 = .ok (.getfield 9, 3) := by decide +kernel
theorem dX4_move_49 : decode cX4_move 49 = .ok (.iload_n 1, 1) := by decide +kernel
theorem dX4_move_50 : decode cX4_move 50 = .ok (.dup2, 1) := by decide +kernel
theorem dX4_move_51 : decode cX4_move 51 = .ok (.iaload, 1) := by decide +kernel
theorem dX4_move_52 : decode cX4_move 52 = .ok (.iload_n 3, 1) := by decide +kernel
theorem dX4_move_53 : decode cX4_move 53 = .ok (.isub, 1) := by decide +kernel
theorem dX4_move_54 : decode cX4_move 54 = .ok (.iastore, 1) := by decide +kernel
theorem dX4_move_55 : decode cX4_move 55 = .ok (.aload_n 0, 1) := by decide +kernel
theorem dX4_move_56 : decode cX4_move 56 = .ok (.getfield 9, 3) := by decide +kernel
theorem dX4_move_59 : decode cX4_move 59 = .ok (.iload_n 1, 1) := by decide +kernel
theorem dX4_move_60 : decode cX4_move 60 = .ok (.iconst 1, 1) := by decide +kernel
theorem dX4_move_61 : decode cX4_move 61 = .ok (.iadd, 1) := by decide +kernel
theorem dX4_move_62 : decode cX4_move 62 = .ok (.dup2, 1) := by decide +kernel
theorem dX4_move_63 : decode cX4_move 63 = .ok (.iaload, 1) := by decide +kernel
theorem dX4_move_64 : decode cX4_move 64 = .ok (.iload_n 3, 1) := by decide +kernel
theorem dX4_move_65 : decode cX4_move 65 = .ok (.iadd, 1) := by decide +kernel
theorem dX4_move_66 : decode cX4_move 66 = .ok (.iastore, 1) := by decide +kernel
theorem dX4_move_67 : decode cX4_move 67 = .ok (.return_, 1) := by decide +kernel
theorem dX4_runOver_0 : decode cX4_runOver 0 = .ok (.aload_n 0, 1) := by decide +kernel
theorem dX4_runOver_1 : decode cX4_runOver 1 = .ok (.getfield 9, 3) := by decide +kernel
theorem dX4_runOver_4 : decode cX4_runOver 4 = .ok (.iload_n 2, 1) := by decide +kernel
theorem dX4_runOver_5 : decode cX4_runOver 5 = .ok (.iaload, 1) := by decide +kernel
theorem dX4_runOver_6 : decode cX4_runOver 6 = .ok (.aload_n 1, 1) := by decide +kernel
theorem dX4_runOver_7 : decode cX4_runOver 7 = .ok (.getfield 47, 3) := by decide +kernel
theorem dX4_runOver_10 : decode cX4_runOver 10 = .ok (.isub, 1) := by decide +kernel
theorem dX4_runOver_11 : decode cX4_runOver 11 = .ok (.istore_n 3, 1) := by decide +kernel
theorem dX4_runOver_12 : decode cX4_runOver 12 = .ok (.iload_n 3, 1) := by decide +kernel
theorem dX4_runOver_13 : decode cX4_runOver 13 = .ok (.ifCond .gt 5, 3) := by decide +kernel
theorem dX4_runOver_16 : decode cX4_runOver 16 = .ok (.iconst 0, 1) := by decide +kernel
theorem dX4_runOver_17 : decode cX4_runOver 17 = .ok (.ireturn, 1) := by decide +kernel
theorem dX4_runOver_18 : decode cX4_runOver 18 = .ok (.iload_n 3, 1) := by decide +kernel
theorem dX4_runOver_19 : decode cX4_runOver 19 = .ok (.iload_n 3, 1) := by decide +kernel
theorem dX4_runOver_20 : decode cX4_runOver 20 = .ok (.aload_n 1, 1) := by decide +kernel
theorem dX4_runOver_21 : decode cX4_runOver 21 = .ok (.getfield 66, 3) := by decide +kernel
theorem dX4_runOver_24 : decode cX4_runOver 24 = .ok (.iconst 4, 1) := by decide +kernel
theorem dX4_runOver_25 : decode cX4_runOver 25 = .ok (.iaload, 1) := by decide +kernel
theorem dX4_runOver_26 : decode cX4_runOver 26 = .ok (.imul, 1) := by decide +kernel
theorem dX4_runOver_27 : decode cX4_runOver 27 = .ok (.bipush 100, 2) := by decide +kernel
theorem dX4_runOver_29 : decode cX4_runOver 29 = .ok (.idiv, 1) := by decide +kernel
theorem dX4_runOver_30 : decode cX4_runOver 30 = .ok (.isub, 1) := by decide +kernel
theorem dX4_runOver_31 : decode cX4_runOver 31 = .ok (.istore 4, 2) := by decide +kernel
theorem dX4_runOver_33 : decode cX4_runOver 33 = .ok (.aload_n 0, 1) := by decide +kernel
theorem dX4_runOver_34 : decode cX4_runOver 34 = .ok (.getfield 9, 3) := by decide +kernel
theorem dX4_runOver_37 : decode cX4_runOver 37 = .ok (.iload_n 2, 1) := by decide +kernel
theorem dX4_runOver_38 : decode cX4_runOver 38 = .ok (.dup2, 1) := by decide +kernel
theorem dX4_runOver_39 : decode cX4_runOver 39 = .ok (.iaload, 1) := by decide +kernel
theorem dX4_runOver_40 : decode cX4_runOver 40 = .ok (.iload 4, 2) := by decide +kernel
theorem dX4_runOver_42 : decode cX4_runOver 42 = .ok (.isub, 1) := by decide +kernel
theorem dX4_runOver_43 : decode cX4_runOver 43 = .ok (.iastore, 1) := by decide +kernel
theorem dX4_runOver_44 : decode cX4_runOver 44 = .ok (.iload 4, 2) := by decide +kernel
theorem dX4_runOver_46 : decode cX4_runOver 46 = .ok (.ireturn, 1) := by decide +kernel
theorem dX4_slope_0 : decode cX4_slope 0 = .ok (.aload_n 0, 1) := by decide +kernel
theorem dX4_slope_1 : decode cX4_slope 1 = .ok (.getfield 9, 3) := by decide +kernel
theorem dX4_slope_4 : decode cX4_slope 4 = .ok (.iconst 0, 1) := by decide +kernel
theorem dX4_slope_5 : decode cX4_slope 5 = .ok (.iaload, 1) := by decide +kernel
theorem dX4_slope_6 : decode cX4_slope 6 = .ok (.aload_n 0, 1) := by decide +kernel
theorem dX4_slope_7 : decode cX4_slope 7 = .ok (.getfield 9, 3) := by decide +kernel
theorem dX4_slope_10 : decode cX4_slope 10 = .ok (.aload_n 1, 1) := by decide +kernel
theorem dX4_slope_11 : decode cX4_slope 11 = .ok (.getfield 38, 3) := by decide +kernel
theorem dX4_slope_14 : decode cX4_slope 14 = .ok (.iaload, 1) := by decide +kernel
theorem dX4_slope_15 : decode cX4_slope 15 = .ok (.isub, 1) := by decide +kernel
theorem dX4_slope_16 : decode cX4_slope 16 = .ok (.ireturn, 1) := by decide +kernel
theorem dX4_higherEnd_0 : decode cX4_higherEnd 0 = .ok (.aload_n 0, 1) := by decide +kernel
theorem dX4_higherEnd_1 : decode cX4_higherEnd 1 = .ok (.getfield 9, 3) := by decide +kernel
theorem dX4_higherEnd_4 : decode cX4_higherEnd 4 = .ok (.iconst 0, 1) := by decide +kernel
theorem dX4_higherEnd_5 : decode cX4_higherEnd 5 = .ok (.iaload, 1) := by decide +kernel
theorem dX4_higherEnd_6 : decode cX4_higherEnd 6 = .ok (.aload_n 0, 1) := by decide +kernel
theorem dX4_higherEnd_7 : decode cX4_higherEnd 7 = .ok (.getfield 9, 3) := by decide +kernel
theorem dX4_higherEnd_10 : decode cX4_higherEnd 10 = .ok (.aload_n 1, 1) := by decide +kernel
theorem dX4_higherEnd_11 : decode cX4_higherEnd 11 = .ok (.getfield 38, 3) := by decide +kernel
theorem dX4_higherEnd_14 : decode cX4_higherEnd 14 = .ok (.iaload, 1) := by decide +kernel
theorem dX4_higherEnd_15 : decode cX4_higherEnd 15 = .ok (.invokestatic 41, 3) := by decide +kernel
theorem dX4_higherEnd_18 : decode cX4_higherEnd 18 = .ok (.ireturn, 1) := by decide +kernel
theorem dX4_contents_0 : decode cX4_contents 0 = .ok (.iconst 0, 1) := by decide +kernel
theorem dX4_contents_1 : decode cX4_contents 1 = .ok (.istore_n 2, 1) := by decide +kernel
theorem dX4_contents_2 : decode cX4_contents 2 = .ok (.iconst 0, 1) := by decide +kernel
theorem dX4_contents_3 : decode cX4_contents 3 = .ok (.istore_n 3, 1) := by decide +kernel
theorem dX4_contents_4 : decode cX4_contents 4 = .ok (.iload_n 3, 1) := by decide +kernel
theorem dX4_contents_5 : decode cX4_contents 5 = .ok (.aload_n 1, 1) := by decide +kernel
theorem dX4_contents_6 : decode cX4_contents 6 = .ok (.getfield 38, 3) := by decide +kernel
theorem dX4_contents_9 : decode cX4_contents 9 = .ok (.if_icmp .gt 18, 3) := by decide +kernel
theorem dX4_contents_12 : decode cX4_contents 12 = .ok (.iload_n 2, 1) := by decide +kernel
theorem dX4_contents_13 : decode cX4_contents 13 = .ok (.aload_n 0, 1) := by decide +kernel
theorem dX4_contents_14 : decode cX4_contents 14 = .ok (.getfield 9, 3) := by decide +kernel
theorem dX4_contents_17 : decode cX4_contents 17 = .ok (.iload_n 3, 1) := by decide +kernel
theorem dX4_contents_18 : decode cX4_contents 18 = .ok (.iaload, 1) := by decide +kernel
theorem dX4_contents_19 : decode cX4_contents 19 = .ok (.iadd, 1) := by decide +kernel
theorem dX4_contents_20 : decode cX4_contents 20 = .ok (.istore_n 2, 1) := by decide +kernel
theorem dX4_contents_21 : decode cX4_contents 21 = .ok (.iinc 3 1, 3) := by decide +kernel
theorem dX4_contents_24 : decode cX4_contents 24 = .ok (.goto (-20), 3) := by decide +kernel
theorem dX4_contents_27 : decode cX4_contents 27 = .ok (.iload_n 2, 1) := by decide +kernel
theorem dX4_contents_28 : decode cX4_contents 28 = .ok (.ireturn, 1) := by decide +kernel
theorem dX4_greatest_0 : decode cX4_greatest 0 = .ok (.iconst 0, 1) := by decide +kernel
theorem dX4_greatest_1 : decode cX4_greatest 1 = .ok (.istore_n 2, 1) := by decide +kernel
theorem dX4_greatest_2 : decode cX4_greatest 2 = .ok (.iconst 0, 1) := by decide +kernel
theorem dX4_greatest_3 : decode cX4_greatest 3 = .ok (.istore_n 3, 1) := by decide +kernel
theorem dX4_greatest_4 : decode cX4_greatest 4 = .ok (.iload_n 3, 1) := by decide +kernel
theorem dX4_greatest_5 : decode cX4_greatest 5 = .ok (.aload_n 1, 1) := by decide +kernel
theorem dX4_greatest_6 : decode cX4_greatest 6 = .ok (.getfield 38, 3) := by decide +kernel
theorem dX4_greatest_9 : decode cX4_greatest 9 = .ok (.if_icmp .gt 20, 3) := by decide +kernel
theorem dX4_greatest_12 : decode cX4_greatest 12 = .ok (.iload_n 2, 1) := by decide +kernel
theorem dX4_greatest_13 : decode cX4_greatest 13 = .ok (.aload_n 0, 1) := by decide +kernel
theorem dX4_greatest_14 : decode cX4_greatest 14 = .ok (.getfield 9, 3) := by decide +kernel
theorem dX4_greatest_17 : decode cX4_greatest 17 = .ok (.iload_n 3, 1) := by decide +kernel
theorem dX4_greatest_18 : decode cX4_greatest 18 = .ok (.iaload, 1) := by decide +kernel
theorem dX4_greatest_19 : decode cX4_greatest 19 = .ok (.invokestatic 41, 3) := by decide +kernel
theorem dX4_greatest_22 : decode cX4_greatest 22 = .ok (.istore_n 2, 1) := by decide +kernel
theorem dX4_greatest_23 : decode cX4_greatest 23 = .ok (.iinc 3 1, 3) := by decide +kernel
theorem dX4_greatest_26 : decode cX4_greatest 26 = .ok (.goto (-22), 3) := by decide +kernel
theorem dX4_greatest_29 : decode cX4_greatest 29 = .ok (.iload_n 2, 1) := by decide +kernel
theorem dX4_greatest_30 : decode cX4_greatest 30 = .ok (.ireturn, 1) := by decide +kernel
theorem dX4_restlessness_0 : decode cX4_restlessness 0 = .ok (.lconst 0, 1) := by decide +kernel
theorem dX4_restlessness_1 : decode cX4_restlessness 1 = .ok (.lstore_n 2, 1) := by decide +kernel
theorem dX4_restlessness_2 : decode cX4_restlessness 2 = .ok (.iconst 0, 1) := by decide +kernel
theorem dX4_restlessness_3 : decode cX4_restlessness 3 = .ok (.istore 4, 2) := by decide +kernel
theorem dX4_restlessness_5 : decode cX4_restlessness 5 = .ok (.iload 4, 2) := by decide +kernel
theorem dX4_restlessness_7 : decode cX4_restlessness 7 = .ok (.aload_n 1, 1) := by decide +kernel
theorem dX4_restlessness_8 : decode cX4_restlessness 8 = .ok (.getfield 38, 3) := by decide +kernel
theorem dX4_restlessness_11 : decode cX4_restlessness 11 = .ok (.if_icmp .gt 64, 3) := by decide +kernel
theorem dX4_restlessness_14 : decode cX4_restlessness 14 = .ok (.aload_n 0, 1) := by decide +kernel
theorem dX4_restlessness_15 : decode cX4_restlessness 15 = .ok (.getfield 9, 3) := by decide +kernel
theorem dX4_restlessness_18 : decode cX4_restlessness 18 = .ok (.iload 4, 2) := by decide +kernel
theorem dX4_restlessness_20 : decode cX4_restlessness 20 = .ok (.iaload, 1) := by decide +kernel
theorem dX4_restlessness_21 : decode cX4_restlessness 21 = .ok (.aload_n 1, 1) := by decide +kernel
theorem dX4_restlessness_22 : decode cX4_restlessness 22 = .ok (.getfield 22, 3) := by decide +kernel
theorem dX4_restlessness_25 : decode cX4_restlessness 25 = .ok (.isub, 1) := by decide +kernel
theorem dX4_restlessness_26 : decode cX4_restlessness 26 = .ok (.i2l, 1) := by decide +kernel
theorem dX4_restlessness_27 : decode cX4_restlessness 27 = .ok (.lstore 5, 2) := by decide +kernel
theorem dX4_restlessness_29 : decode cX4_restlessness 29 = .ok (.iload 4, 2) := by decide +kernel
theorem dX4_restlessness_31 : decode cX4_restlessness 31 = .ok (.aload_n 1, 1) := by decide +kernel
theorem dX4_restlessness_32 : decode cX4_restlessness 32 = .ok (.getfield 38, 3) := by decide +kernel
theorem dX4_restlessness_35 : decode cX4_restlessness 35 = .ok (.if_icmp .ge 17, 3) := by decide +kernel
theorem dX4_restlessness_38 : decode cX4_restlessness 38 = .ok (.aload_n 0, 1) := by decide +kernel
theorem dX4_restlessness_39 : decode cX4_restlessness 39 = .ok (.getfield 15, 3) := by decide +kernel
theorem dX4_restlessness_42 : decode cX4_restlessness 42 = .ok (.iload 4, 2) := by decide +kernel
theorem dX4_restlessness_44 : decode cX4_restlessness 44 = .ok (.iaload, 1) := by decide +kernel
theorem dX4_restlessness_45 : decode cX4_restlessness 45 = .ok (.bipush 8, 2) := by decide +kernel
theorem dX4_restlessness_47 : decode cX4_restlessness 47 = .ok (.idiv, 1) := by decide +kernel
theorem dX4_restlessness_48 : decode cX4_restlessness 48 = .ok (.i2l, 1) := by decide +kernel
theorem dX4_restlessness_49 : decode cX4_restlessness 49 = .ok (.goto 4, 3) := by decide +kernel
theorem dX4_restlessness_52 : decode cX4_restlessness 52 = .ok (.lconst 0, 1) := by decide +kernel
theorem dX4_restlessness_53 : decode cX4_restlessness 53 = .ok (.lstore 7, 2) := by decide +kernel
theorem dX4_restlessness_55 : decode cX4_restlessness 55 = .ok (.lload_n 2, 1) := by decide +kernel
theorem dX4_restlessness_56 : decode cX4_restlessness 56 = .ok (.lload 5, 2) := by decide +kernel
theorem dX4_restlessness_58 : decode cX4_restlessness 58 = .ok (.lload 5, 2) := by decide +kernel
theorem dX4_restlessness_60 : decode cX4_restlessness 60 = .ok (.lmul, 1) := by decide +kernel
theorem dX4_restlessness_61 : decode cX4_restlessness 61 = .ok (.lload 7, 2) := by decide +kernel
theorem dX4_restlessness_63 : decode cX4_restlessness 63 = .ok (.lload 7, 2) := by decide +kernel
theorem dX4_restlessness_65 : decode cX4_restlessness 65 = .ok (.lmul, 1) := by decide +kernel
theorem dX4_restlessness_66 : decode cX4_restlessness 66 = .ok (.ladd, 1) := by decide +kernel
theorem dX4_restlessness_67 : decode cX4_restlessness 67 = .ok (.ladd, 1) := by decide +kernel
theorem dX4_restlessness_68 : decode cX4_restlessness 68 = .ok (.lstore_n 2, 1) := by decide +kernel
theorem dX4_restlessness_69 : decode cX4_restlessness 69 = .ok (.iinc 4 1, 3) := by decide +kernel
theorem dX4_restlessness_72 : decode cX4_restlessness 72 = .ok (.goto (-67), 3) := by decide +kernel
theorem dX4_restlessness_75 : decode cX4_restlessness 75 = .ok (.lload_n 2, 1) := by decide +kernel
theorem dX4_restlessness_76 : decode cX4_restlessness 76 = .ok (.lreturn, 1) := by decide +kernel
theorem dX5_init_0 : decode cX5_init 0 = .ok (.aload_n 0, 1) := by decide +kernel
theorem dX5_init_1 : decode cX5_init 1 = .ok (.invokespecial 3, 3) := by decide +kernel
theorem dX5_init_4 : decode cX5_init 4 = .ok (.aload_n 0, 1) := by decide +kernel
theorem dX5_init_5 : decode cX5_init 5 = .ok (.iconst 0, 1) := by decide +kernel
theorem dX5_init_6 : decode cX5_init 6 = .ok (.putfield 9, 3) := by decide +kernel
theorem dX5_init_9 : decode cX5_init 9 = .ok (.aload_n 0, 1) := by decide +kernel
theorem dX5_init_10 : decode cX5_init 10 = .ok (.iconst 1, 1) := by decide +kernel
theorem dX5_init_11 : decode cX5_init 11 = .ok (.putfield 15, 3) := by decide +kernel
theorem dX5_init_14 : decode cX5_init 14 = .ok (.aload_n 0, 1) := by decide +kernel
theorem dX5_init_15 : decode cX5_init 15 = .ok (.new 18, 3) := by decide +kernel
theorem dX5_init_18 : decode cX5_init 18 = .ok (.dup, 1) := by decide +kernel
theorem dX5_init_19 : decode cX5_init 19 = .ok (.invokespecial 20, 3) := by decide +kernel
theorem dX5_init_22 : decode cX5_init 22 = .ok (.putfield 21, 3) := by decide +kernel
theorem dX5_init_25 : decode cX5_init 25 = .ok (.aload_n 0, 1) := by decide +kernel
theorem dX5_init_26 : decode cX5_init 26 = .ok (.new 18, 3) := by decide +kernel
theorem dX5_init_29 : decode cX5_init 29 = .ok (.dup, 1) := by decide +kernel
theorem dX5_init_30 : decode cX5_init 30 = .ok (.invokespecial 20, 3) := by decide +kernel
theorem dX5_init_33 : decode cX5_init 33 = .ok (.putfield 25, 3) := by decide +kernel
theorem dX5_init_36 : decode cX5_init 36 = .ok (.aload_n 0, 1) := by decide +kernel
theorem dX5_init_37 : decode cX5_init 37 = .ok (.bipush 21, 2) := by decide +kernel
theorem dX5_init_39 : decode cX5_init 39 = .ok (.newarray .int, 2) := by decide +kernel
theorem dX5_init_41 : decode cX5_init 41 = .ok (.putfield 28, 3) := by decide +kernel
theorem dX5_init_44 : decode cX5_init 44 = .ok (.return_, 1) := by decide +kernel
theorem dX5_freshen_0 : decode cX5_freshen 0 = .ok (.aload_n 0, 1) := by decide +kernel
theorem dX5_freshen_1 : decode cX5_freshen 1 = .ok (.iconst 0, 1) := by decide +kernel
theorem dX5_freshen_2 : decode cX5_freshen 2 = .ok (.putfield 9, 3) := by decide +kernel
theorem dX5_freshen_5 : decode cX5_freshen 5 = .ok (.aload_n 0, 1) := by decide +kernel
theorem dX5_freshen_6 : decode cX5_freshen 6 = .ok (.getfield 21, 3) := by decide +kernel
theorem dX5_freshen_9 : decode cX5_freshen 9 = .ok (.aload_n 1, 1) := by decide +kernel
theorem dX5_freshen_10 : decode cX5_freshen 10 = .ok (.invokevirtual 32, 3) := by decide +kernel
theorem dX5_freshen_13 : decode cX5_freshen 13 = .ok (.aload_n 0, 1) := by decide +kernel
theorem dX5_freshen_14 : decode cX5_freshen 14 = .ok (.getfield 25, 3) := by decide +kernel
theorem dX5_freshen_17 : decode cX5_freshen 17 = .ok (.aload_n 1, 1) := by decide +kernel
theorem dX5_freshen_18 : decode cX5_freshen 18 = .ok (.invokevirtual 32, 3) := by decide +kernel
theorem dX5_freshen_21 : decode cX5_freshen 21 = .ok (.return_, 1) := by decide +kernel
theorem dX5_copy_0 : decode cX5_copy 0 = .ok (.aload_n 0, 1) := by decide +kernel
theorem dX5_copy_1 : decode cX5_copy 1 = .ok (.aload_n 1, 1) := by decide +kernel
theorem dX5_copy_2 : decode cX5_copy 2 = .ok (.getfield 9, 3) := by decide +kernel
theorem dX5_copy_5 : decode cX5_copy 5 = .ok (.putfield 9, 3) := by decide +kernel
theorem dX5_copy_8 : decode cX5_copy 8 = .ok (.aload_n 0, 1) := by decide +kernel
theorem dX5_copy_9 : decode cX5_copy 9 = .ok (.aload_n 1, 1) := by decide +kernel
theorem dX5_copy_10 : decode cX5_copy 10 = .ok (.getfield 15, 3) := by decide +kernel
theorem dX5_copy_13 : decode cX5_copy 13 = .ok (.putfield 15, 3) := by decide +kernel
theorem dX5_copy_16 : decode cX5_copy 16 = .ok (.aload_n 0, 1) := by decide +kernel
theorem dX5_copy_17 : decode cX5_copy 17 = .ok (.getfield 21, 3) := by decide +kernel
theorem dX5_copy_20 : decode cX5_copy 20 = .ok (.aload_n 1, 1) := by decide +kernel
theorem dX5_copy_21 : decode cX5_copy 21 = .ok (.getfield 21, 3) := by decide +kernel
theorem dX5_copy_24 : decode cX5_copy 24 = .ok (.invokevirtual 36, 3) := by decide +kernel
theorem dX5_copy_27 : decode cX5_copy 27 = .ok (.aload_n 0, 1) := by decide +kernel
theorem dX5_copy_28 : decode cX5_copy 28 = .ok (.getfield 25, 3) := by decide +kernel
theorem dX5_copy_31 : decode cX5_copy 31 = .ok (.aload_n 1, 1) := by decide +kernel
theorem dX5_copy_32 : decode cX5_copy 32 = .ok (.getfield 25, 3) := by decide +kernel
theorem dX5_copy_35 : decode cX5_copy 35 = .ok (.invokevirtual 36, 3) := by decide +kernel
theorem dX5_copy_38 : decode cX5_copy 38 = .ok (.aload_n 1, 1) := by decide +kernel
theorem dX5_copy_39 : decode cX5_copy 39 = .ok (.getfield 28, 3) := by decide +kernel
theorem dX5_copy_42 : decode cX5_copy 42 = .ok (.iconst 0, 1) := by decide +kernel
theorem dX5_copy_43 : decode cX5_copy 43 = .ok (.aload_n 0, 1) := by decide +kernel
theorem dX5_copy_44 : decode cX5_copy 44 = .ok (.getfield 28, 3) := by decide +kernel
theorem dX5_copy_47 : decode cX5_copy 47 = .ok (.iconst 0, 1) := by decide +kernel
theorem dX5_copy_48 : decode cX5_copy 48 = .ok (.aload_n 0, 1) := by decide +kernel
theorem dX5_copy_49 : decode cX5_copy 49 = .ok (.getfield 28, 3) := by decide +kernel
theorem dX5_copy_52 : decode cX5_copy 52 = .ok (.arraylength, 1) := by decide +kernel
theorem dX5_copy_53 : decode cX5_copy 53 = .ok (.invokestatic 40, 3) := by decide +kernel
theorem dX5_copy_56 : decode cX5_copy 56 = .ok (.return_, 1) := by decide +kernel
theorem dX5_rowOf_0 : decode cX5_rowOf 0 = .ok (.iload_n 1, 1) := by decide +kernel
theorem dX5_rowOf_1 : decode cX5_rowOf 1 = .ok (.ifCond .ne 10, 3) := by decide +kernel
theorem dX5_rowOf_4 : decode cX5_rowOf 4 = .ok (.aload_n 0, 1) := by decide +kernel
theorem dX5_rowOf_5 : decode cX5_rowOf 5 = .ok (.getfield 21, 3) := by decide +kernel
theorem dX5_rowOf_8 : decode cX5_rowOf 8 = .ok (.goto 7, 3) := by decide +kernel
theorem dX5_rowOf_11 : decode cX5_rowOf 11 = .ok (.aload_n 0, 1) := by decide +kernel
theorem dX5_rowOf_12 : decode cX5_rowOf 12 = .ok (.getfield 25, 3) := by decide +kernel
theorem dX5_rowOf_15 : decode cX5_rowOf 15 = .ok (.areturn, 1) := by decide +kernel
theorem dX5_pass_0 : decode cX5_pass 0 = .ok (.aload_n 0, 1) := by decide +kernel
theorem dX5_pass_1 : decode cX5_pass 1 = .ok (.getfield 28, 3) := by decide +kernel
theorem dX5_pass_4 : decode cX5_pass 4 = .ok (.aload_n 0, 1) := by decide +kernel
theorem dX5_pass_5 : decode cX5_pass 5 = .ok (.getfield 9, 3) := by decide +kernel
theorem dX5_pass_8 : decode cX5_pass 8 = .ok (.aload_n 0, 1) := by decide +kernel
theorem dX5_pass_9 : decode cX5_pass 9 = .ok (.getfield 28, 3) := by decide +kernel
theorem dX5_pass_12 : decode cX5_pass 12 = .ok (.arraylength, 1) := by decide +kernel
theorem dX5_pass_13 : decode cX5_pass 13 = .ok (.invokestatic 46, 3) := by decide +kernel
theorem dX5_pass_16 : decode cX5_pass 16 = .ok (.aload_n 0, 1) := by decide +kernel
theorem dX5_pass_17 : decode cX5_pass 17 = .ok (.getfield 21, 3) := by decide +kernel
theorem dX5_pass_20 : decode cX5_pass 20 = .ok (.aload_n 1, 1) := by decide +kernel
theorem dX5_pass_21 : decode cX5_pass 21 = .ok (.invokevirtual 52, 3) := by decide +kernel
theorem dX5_pass_24 : decode cX5_pass 24 = .ok (.iastore, 1) := by decide +kernel
theorem dX5_pass_25 : decode cX5_pass 25 = .ok (.aload_n 0, 1) := by decide +kernel
theorem dX5_pass_26 : decode cX5_pass 26 = .ok (.getfield 21, 3) := by decide +kernel
theorem dX5_pass_29 : decode cX5_pass 29 = .ok (.aload_n 1, 1) := by decide +kernel
theorem dX5_pass_30 : decode cX5_pass 30 = .ok (.iload_n 2, 1) := by decide +kernel
theorem dX5_pass_31 : decode cX5_pass 31 = .ok (.invokevirtual 56, 3) := by decide +kernel
theorem dX5_pass_34 : decode cX5_pass 34 = .ok (.aload_n 0, 1) := by decide +kernel
theorem dX5_pass_35 : decode cX5_pass 35 = .ok (.getfield 25, 3) := by decide +kernel
theorem dX5_pass_38 : decode cX5_pass 38 = .ok (.aload_n 1, 1) := by decide +kernel
theorem dX5_pass_39 : decode cX5_pass 39 = .ok (.iload_n 3, 1) := by decide +kernel
theorem dX5_pass_40 : decode cX5_pass 40 = .ok (.invokevirtual 56, 3) := by decide +kernel
theorem dX5_pass_43 : decode cX5_pass 43 = .ok (.iadd, 1) := by decide +kernel
theorem dX5_pass_44 : decode cX5_pass 44 = .ok (.istore 4, 2) := by decide +kernel
theorem dX5_pass_46 : decode cX5_pass 46 = .ok (.aload_n 0, 1) := by decide +kernel
theorem dX5_pass_47 : decode cX5_pass 47 = .ok (.dup, 1) := by decide +kernel
theorem dX5_pass_48 : decode cX5_pass 48 = .ok (.getfield 9, 3) := by decide +kernel
theorem dX5_pass_51 : decode cX5_pass 51 = .ok (.iconst 1, 1) := by decide +kernel
theorem dX5_pass_52 : decode cX5_pass 52 = .ok (.iadd, 1) := by decide +kernel
theorem dX5_pass_53 : decode cX5_pass 53 = .ok (.putfield 9, 3) := by decide +kernel
theorem dX5_pass_56 : decode cX5_pass 56 = .ok (.iload 4, 2) := by decide +kernel
theorem dX5_pass_58 : decode cX5_pass 58 = .ok (.ireturn, 1) := by decide +kernel
theorem dX5_carry_0 : decode cX5_carry 0 = .ok (.aload_n 0, 1) := by decide +kernel
theorem dX5_carry_1 : decode cX5_carry 1 = .ok (.aload_n 1, 1) := by decide +kernel
theorem dX5_carry_2 : decode cX5_carry 2 = .ok (.aload_n 2, 1) := by decide +kernel
theorem dX5_carry_3 : decode cX5_carry 3 = .ok (.aload_n 3, 1) := by decide +kernel
theorem dX5_carry_4 : decode cX5_carry 4 = .ok (.getfield 60, 3) := by decide +kernel
theorem dX5_carry_7 : decode cX5_carry 7 = .ok (.iload 4, 2) := by decide +kernel
theorem dX5_carry_9 : decode cX5_carry 9 = .ok (.iaload, 1) := by decide +kernel
theorem dX5_carry_10 : decode cX5_carry 10 = .ok (.aload_n 0, 1) := by decide +kernel
theorem dX5_carry_11 : decode cX5_carry 11 = .ok (.aload_n 3, 1) := by decide +kernel
theorem dX5_carry_12 : decode cX5_carry 12 = .ok (.getfield 64, 3) := by decide +kernel
theorem dX5_carry_15 : decode cX5_carry 15 = .ok (.iload 4, 2) := by decide +kernel
theorem dX5_carry_17 : decode cX5_carry 17 = .ok (.iaload, 1) := by decide +kernel
theorem dX5_carry_18 : decode cX5_carry 18 = .ok (.invokevirtual 67, 3) := by decide +kernel
theorem dX5_carry_21 : decode cX5_carry 21 = .ok (.iadd, 1) := by decide +kernel
theorem dX5_carry_22 : decode cX5_carry 22 = .ok (.invokevirtual 70, 3) := by decide +kernel
theorem dX5_carry_25 : decode cX5_carry 25 = .ok (.istore 6, 2) := by decide +kernel
theorem dX5_carry_27 : decode cX5_carry 27 = .ok (.aload_n 3, 1) := by decide +kernel
theorem dX5_carry_28 : decode cX5_carry 28 = .ok (.getfield 74, 3) := by decide +kernel
theorem dX5_carry_31 : decode cX5_carry 31 = .ok (.iload 4, 2) := by decide +kernel
theorem dX5_carry_33 : decode cX5_carry 33 = .ok (.iaload, 1) := by decide +kernel
theorem dX5_carry_34 : decode cX5_carry 34 = .ok (.istore 7, 2) := by decide +kernel
theorem dX5_carry_36 : decode cX5_carry 36 = .ok (.iload 5, 2) := by decide +kernel
theorem dX5_carry_38 : decode cX5_carry 38 = .ok (.ifCond .eq 15, 3) := by decide +kernel
theorem dX5_carry_41 : decode cX5_carry 41 = .ok (.aload_n 0, 1) := by decide +kernel
theorem dX5_carry_42 : decode cX5_carry 42 = .ok (.aload_n 1, 1) := by decide +kernel
theorem dX5_carry_43 : decode cX5_carry 43 = .ok (.iload 7, 2) := by decide +kernel
theorem dX5_carry_45 : decode cX5_carry 45 = .ok (.iload 6, 2) := by decide +kernel
theorem dX5_carry_47 : decode cX5_carry 47 = .ok (.invokevirtual 76, 3) := by decide +kernel
theorem dX5_carry_50 : decode cX5_carry 50 = .ok (.goto 12, 3) := by decide +kernel
theorem dX5_carry_53 : decode cX5_carry 53 = .ok (.aload_n 0, 1) := by decide +kernel
theorem dX5_carry_54 : decode cX5_carry 54 = .ok (.aload_n 1, 1) := by decide +kernel
theorem dX5_carry_55 : decode cX5_carry 55 = .ok (.iload 6, 2) := by decide +kernel
theorem dX5_carry_57 : decode cX5_carry 57 = .ok (.iload 7, 2) := by decide +kernel
theorem dX5_carry_59 : decode cX5_carry 59 = .ok (.invokevirtual 76, 3) := by decide +kernel
theorem dX5_carry_62 : decode cX5_carry 62 = .ok (.ireturn, 1) := by decide +kernel
theorem dX5_wander_0 : decode cX5_wander 0 = .ok (.iload_n 1, 1) := by decide +kernel
theorem dX5_wander_1 : decode cX5_wander 1 = .ok (.ifCond .gt 5, 3) := by decide +kernel
theorem dX5_wander_4 : decode cX5_wander 4 = .ok (.iconst 0, 1) := by decide +kernel
theorem dX5_wander_5 : decode cX5_wander 5 = .ok (.ireturn, 1) := by decide +kernel
theorem dX5_wander_6 : decode cX5_wander 6 = .ok (.aload_n 0, 1) := by decide +kernel
theorem dX5_wander_7 : decode cX5_wander 7 = .ok (.aload_n 0, 1) := by decide +kernel
theorem dX5_wander_8 : decode cX5_wander 8 = .ok (.getfield 15, 3) := by decide +kernel
theorem dX5_wander_11 : decode cX5_wander 11 = .ok (.ldc 79, 2) := by decide +kernel
theorem dX5_wander_13 : decode cX5_wander 13 = .ok (.imul, 1) := by decide +kernel
theorem dX5_wander_14 : decode cX5_wander 14 = .ok (.sipush 12345, 3) := by decide +kernel
theorem dX5_wander_17 : decode cX5_wander 17 = .ok (.iadd, 1) := by decide +kernel
theorem dX5_wander_18 : decode cX5_wander 18 = .ok (.putfield 15, 3) := by decide +kernel
theorem dX5_wander_21 : decode cX5_wander 21 = .ok (.aload_n 0, 1) := by decide +kernel
theorem dX5_wander_22 : decode cX5_wander 22 = .ok (.getfield 15, 3) := by decide +kernel
theorem dX5_wander_25 : decode cX5_wander 25 = .ok (.bipush 16, 2) := by decide +kernel
theorem dX5_wander_27 : decode cX5_wander 27 = .ok (.iushr, 1) := by decide +kernel
theorem dX5_wander_28 : decode cX5_wander 28 = .ok (.iconst 2, 1) := by decide +kernel
theorem dX5_wander_29 : decode cX5_wander 29 = .ok (.iload_n 1, 1) := by decide +kernel
theorem dX5_wander_30 : decode cX5_wander 30 = .ok (.imul, 1) := by decide +kernel
theorem dX5_wander_31 : decode cX5_wander 31 = .ok (.iconst 1, 1) := by decide +kernel
theorem dX5_wander_32 : decode cX5_wander 32 = .ok (.iadd, 1) := by decide +kernel
theorem dX5_wander_33 : decode cX5_wander 33 = .ok (.irem, 1) := by decide +kernel
theorem dX5_wander_34 : decode cX5_wander 34 = .ok (.iload_n 1, 1) := by decide +kernel
theorem dX5_wander_35 : decode cX5_wander 35 = .ok (.isub, 1) := by decide +kernel
theorem dX5_wander_36 : decode cX5_wander 36 = .ok (.ireturn, 1) := by decide +kernel
theorem dX5_given_0 : decode cX5_given 0 = .ok (.aload_n 2, 1) := by decide +kernel
theorem dX5_given_1 : decode cX5_given 1 = .ok (.ifnonnull 5, 3) := by decide +kernel
theorem dX5_given_4 : decode cX5_given 4 = .ok (.iload_n 3, 1) := by decide +kernel
theorem dX5_given_5 : decode cX5_given 5 = .ok (.ireturn, 1) := by decide +kernel
theorem dX5_given_6 : decode cX5_given 6 = .ok (.aload_n 0, 1) := by decide +kernel
theorem dX5_given_7 : decode cX5_given 7 = .ok (.aload_n 1, 1) := by decide +kernel
theorem dX5_given_8 : decode cX5_given 8 = .ok (.invokevirtual 80, 3) := by decide +kernel
theorem dX5_given_11 : decode cX5_given 11 = .ok (.istore 4, 2) := by decide +kernel
theorem dX5_given_13 : decode cX5_given 13 = .ok (.aload_n 2, 1) := by decide +kernel
theorem dX5_given_14 : decode cX5_given 14 = .ok (.iload_n 3, 1) := by decide +kernel
theorem dX5_given_15 : decode cX5_given 15 = .ok (.iload 4, 2) := by decide +kernel
theorem dX5_given_17 : decode cX5_given 17 = .ok (.aload_n 0, 1) := by decide +kernel
theorem dX5_given_18 : decode cX5_given 18 = .ok (.getfield 9, 3) := by decide +kernel
theorem dX5_given_21 : decode cX5_given 21 = .ok (.aload_n 1, 1) := by decide +kernel
theorem dX5_given_22 : decode cX5_given 22 = .ok (.getfield 83, 3) := by decide +kernel
theorem dX5_given_25 : decode cX5_given 25 = .ok (.iconst 2, 1) := by decide +kernel
theorem dX5_given_26 : decode cX5_given 26 = .ok (.iaload, 1) := by decide +kernel
theorem dX5_given_27 : decode cX5_given 27 = .ok (.aload_n 0, 1) := by decide +kernel
theorem dX5_given_28 : decode cX5_given 28 = .ok (.getfield 21, 3) := by decide +kernel
theorem dX5_given_31 : decode cX5_given 31 = .ok (.getfield 88, 3) := by decide +kernel
theorem dX5_given_34 : decode cX5_given 34 = .ok (.iconst 0, 1) := by decide +kernel
theorem dX5_given_35 : decode cX5_given 35 = .ok (.iaload, 1) := by decide +kernel
theorem dX5_given_36 : decode cX5_given 36 = .ok (.invokevirtual 91, 3) := by decide +kernel
theorem dX5_given_39 : decode cX5_given 39 = .ok (.ireturn, 1) := by decide +kernel
theorem dX5_slopeSeen_0 : decode cX5_slopeSeen 0 = .ok (.aload_n 1, 1) := by decide +kernel
theorem dX5_slopeSeen_1 : decode cX5_slopeSeen 1 = .ok (.getfield 83, 3) := by decide +kernel
theorem dX5_slopeSeen_4 : decode cX5_slopeSeen 4 = .ok (.iconst 5, 1) := by decide +kernel
theorem dX5_slopeSeen_5 : decode cX5_slopeSeen 5 = .ok (.iaload, 1) := by decide +kernel
theorem dX5_slopeSeen_6 : decode cX5_slopeSeen 6 = .ok (.istore_n 2, 1) := by decide +kernel
theorem dX5_slopeSeen_7 : decode cX5_slopeSeen 7 = .ok (.iload_n 2, 1) := by decide +kernel
theorem dX5_slopeSeen_8 : decode cX5_slopeSeen 8 = .ok (.ifCond .ne 12, 3) := by decide +kernel
theorem dX5_slopeSeen_11 : decode cX5_slopeSeen 11 = .ok (.aload_n 0, 1) := by decide +kernel
theorem dX5_slopeSeen_12 : decode cX5_slopeSeen 12 = .ok (.getfield 21, 3) := by decide +kernel
theorem dX5_slopeSeen_15 : decode cX5_slopeSeen 15 = .ok (.aload_n 1, 1) := by decide +kernel
theorem dX5_slopeSeen_16 : decode cX5_slopeSeen 16 = .ok (.invokevirtual 52, 3) := by decide +kernel
theorem dX5_slopeSeen_19 : decode cX5_slopeSeen 19 = .ok (.ireturn, 1) := by decide +kernel
theorem dX5_slopeSeen_20 : decode cX5_slopeSeen 20 = .ok (.aload_n 0, 1) := by decide +kernel
theorem dX5_slopeSeen_21 : decode cX5_slopeSeen 21 = .ok (.getfield 9, 3) := by decide +kernel
theorem dX5_slopeSeen_24 : decode cX5_slopeSeen 24 = .ok (.iload_n 2, 1) := by decide +kernel
theorem dX5_slopeSeen_25 : decode cX5_slopeSeen 25 = .ok (.if_icmp .ge 7, 3) := by decide +kernel
theorem dX5_slopeSeen_28 : decode cX5_slopeSeen 28 = .ok (.iconst 0, 1) := by decide +kernel
theorem dX5_slopeSeen_29 : decode cX5_slopeSeen 29 = .ok (.goto 22, 3) := by decide +kernel
theorem dX5_slopeSeen_32 : decode cX5_slopeSeen 32 = .ok (.aload_n 0, 1) := by decide +kernel
theorem dX5_slopeSeen_33 : decode cX5_slopeSeen 33 = .ok (.getfield 28, 3) := by decide +kernel
theorem dX5_slopeSeen_36 : decode cX5_slopeSeen 36 = .ok (.aload_n 0, 1) := by decide +kernel
theorem dX5_slopeSeen_37 : decode cX5_slopeSeen 37 = .ok (.getfield 9, 3) := by decide +kernel
theorem dX5_slopeSeen_40 : decode cX5_slopeSeen 40 = .ok (.iload_n 2, 1) := by decide +kernel
theorem dX5_slopeSeen_41 : decode cX5_slopeSeen 41 = .ok (.isub, 1) := by decide +kernel
theorem dX5_slopeSeen_42 : decode cX5_slopeSeen 42 = .ok (.aload_n 0, 1) := by decide +kernel
theorem dX5_slopeSeen_43 : decode cX5_slopeSeen 43 = .ok (.getfield 28, 3) := by decide +kernel
theorem dX5_slopeSeen_46 : decode cX5_slopeSeen 46 = .ok (.arraylength, 1) := by decide +kernel
theorem dX5_slopeSeen_47 : decode cX5_slopeSeen 47 = .ok (.invokestatic 46, 3) := by decide +kernel
theorem dX5_slopeSeen_50 : decode cX5_slopeSeen 50 = .ok (.iaload, 1) := by decide +kernel
theorem dX5_slopeSeen_51 : decode cX5_slopeSeen 51 = .ok (.ireturn, 1) := by decide +kernel
theorem dX6_init_0 : decode cX6_init 0 = .ok (.aload_n 0, 1) := by decide +kernel
theorem dX6_init_1 : decode cX6_init 1 = .ok (.invokespecial 3, 3) := by decide +kernel
theorem dX6_init_4 : decode cX6_init 4 = .ok (.aload_n 0, 1) := by decide +kernel
theorem dX6_init_5 : decode cX6_init 5 = .ok (.bipush 80, 2) := by decide +kernel
theorem dX6_init_7 : decode cX6_init 7 = .ok (.newarray .char, 2) := by decide +kernel
theorem dX6_init_9 : decode cX6_init 9 = .ok (.putfield 9, 3) := by decide +kernel
theorem dX6_init_12 : decode cX6_init 12 = .ok (.aload_n 0, 1) := by decide +kernel
theorem dX6_init_13 : decode cX6_init 13 = .ok (.iconst 0, 1) := by decide +kernel
theorem dX6_init_14 : decode cX6_init 14 = .ok (.putfield 15, 3) := by decide +kernel
theorem dX6_init_17 : decode cX6_init 17 = .ok (.aload_n 0, 1) := by decide +kernel
theorem dX6_init_18 : decode cX6_init 18 = .ok (.iconst 0, 1) := by decide +kernel
theorem dX6_init_19 : decode cX6_init 19 = .ok (.putfield 19, 3) := by decide +kernel
theorem dX6_init_22 : decode cX6_init 22 = .ok (.aload_n 0, 1) := by decide +kernel
theorem dX6_init_23 : decode cX6_init 23 = .ok (.iconst 0, 1) := by decide +kernel
theorem dX6_init_24 : decode cX6_init 24 = .ok (.putfield 22, 3) := by decide +kernel
theorem dX6_init_27 : decode cX6_init 27 = .ok (.aload_n 0, 1) := by decide +kernel
theorem dX6_init_28 : decode cX6_init 28 = .ok (.iconst (-1), 1) := by decide +kernel
theorem dX6_init_29 : decode cX6_init 29 = .ok (.putfield 25, 3) := by decide +kernel
theorem dX6_init_32 : decode cX6_init 32 = .ok (.return_, 1) := by decide +kernel
theorem dX6_add_0 : decode cX6_add 0 = .ok (.aload_n 0, 1) := by decide +kernel
theorem dX6_add_1 : decode cX6_add 1 = .ok (.getfield 15, 3) := by decide +kernel
theorem dX6_add_4 : decode cX6_add 4 = .ok (.iconst 4, 1) := by decide +kernel
theorem dX6_add_5 : decode cX6_add 5 = .ok (.iadd, 1) := by decide +kernel
theorem dX6_add_6 : decode cX6_add 6 = .ok (.aload_n 0, 1) := by decide +kernel
theorem dX6_add_7 : decode cX6_add 7 = .ok (.getfield 9, 3) := by decide +kernel
theorem dX6_add_10 : decode cX6_add 10 = .ok (.arraylength, 1) := by decide +kernel
theorem dX6_add_11 : decode cX6_add 11 = .ok (.if_icmp .le 5, 3) := by decide +kernel
theorem dX6_add_14 : decode cX6_add 14 = .ok (.iconst 0, 1) := by decide +kernel
theorem dX6_add_15 : decode cX6_add 15 = .ok (.ireturn, 1) := by decide +kernel
theorem dX6_add_16 : decode cX6_add 16 = .ok (.bipush 24, 2) := by decide +kernel
theorem dX6_add_18 : decode cX6_add 18 = .ok (.istore_n 2, 1) := by decide +kernel
theorem dX6_add_19 : decode cX6_add 19 = .ok (.iload_n 2, 1) := by decide +kernel
theorem dX6_add_20 : decode cX6_add 20 = .ok (.ifCond .lt 36, 3) := by decide +kernel
theorem dX6_add_23 : decode cX6_add 23 = .ok (.aload_n 0, 1) := by decide +kernel
theorem dX6_add_24 : decode cX6_add 24 = .ok (.getfield 9, 3) := by decide +kernel
theorem dX6_add_27 : decode cX6_add 27 = .ok (.aload_n 0, 1) := by decide +kernel
theorem dX6_add_28 : decode cX6_add 28 = .ok (.getfield 15, 3) := by decide +kernel
theorem dX6_add_31 : decode cX6_add 31 = .ok (.iload_n 1, 1) := by decide +kernel
theorem dX6_add_32 : decode cX6_add 32 = .ok (.iload_n 2, 1) := by decide +kernel
theorem dX6_add_33 : decode cX6_add 33 = .ok (.iushr, 1) := by decide +kernel
theorem dX6_add_34 : decode cX6_add 34 = .ok (.sipush 255, 3) := by decide +kernel
theorem dX6_add_37 : decode cX6_add 37 = .ok (.iand, 1) := by decide +kernel
theorem dX6_add_38 : decode cX6_add 38 = .ok (.i2c, 1) := by decide +kernel
theorem dX6_add_39 : decode cX6_add 39 = .ok (.castore, 1) := by decide +kernel
theorem dX6_add_40 : decode cX6_add 40 = .ok (.aload_n 0, 1) := by decide +kernel
theorem dX6_add_41 : decode cX6_add 41 = .ok (.dup, 1) := by decide +kernel
theorem dX6_add_42 : decode cX6_add 42 = .ok (.getfield 15, 3) := by decide +kernel
theorem dX6_add_45 : decode cX6_add 45 = .ok (.iconst 1, 1) := by decide +kernel
theorem dX6_add_46 : decode cX6_add 46 = .ok (.iadd, 1) := by decide +kernel
theorem dX6_add_47 : decode cX6_add 47 = .ok (.putfield 15, 3) := by decide +kernel
theorem dX6_add_50 : decode cX6_add 50 = .ok (.iinc 2 (-8), 3) := by decide +kernel
theorem dX6_add_53 : decode cX6_add 53 = .ok (.goto (-34), 3) := by decide +kernel
theorem dX6_add_56 : decode cX6_add 56 = .ok (.iconst 1, 1) := by decide +kernel
theorem dX6_add_57 : decode cX6_add 57 = .ok (.ireturn, 1) := by decide +kernel
theorem dX6_begin_0 : decode cX6_begin 0 = .ok (.aload_n 0, 1) := by decide +kernel
theorem dX6_begin_1 : decode cX6_begin 1 = .ok (.iconst 0, 1) := by decide +kernel
theorem dX6_begin_2 : decode cX6_begin 2 = .ok (.putfield 19, 3) := by decide +kernel
theorem dX6_begin_5 : decode cX6_begin 5 = .ok (.aload_n 0, 1) := by decide +kernel
theorem dX6_begin_6 : decode cX6_begin 6 = .ok (.aload_n 0, 1) := by decide +kernel
theorem dX6_begin_7 : decode cX6_begin 7 = .ok (.getfield 15, 3) := by decide +kernel
theorem dX6_begin_10 : decode cX6_begin 10 = .ok (.iload_n 1, 1) := by decide +kernel
theorem dX6_begin_11 : decode cX6_begin 11 = .ok (.invokestatic 28, 3) := by decide +kernel
theorem dX6_begin_14 : decode cX6_begin 14 = .ok (.putfield 22, 3) := by decide +kernel
theorem dX6_begin_17 : decode cX6_begin 17 = .ok (.aload_n 0, 1) := by decide +kernel
theorem dX6_begin_18 : decode cX6_begin 18 = .ok (.iconst (-1), 1) := by decide +kernel
theorem dX6_begin_19 : decode cX6_begin 19 = .ok (.putfield 25, 3) := by decide +kernel
theorem dX6_begin_22 : decode cX6_begin 22 = .ok (.aload_n 0, 1) := by decide +kernel
theorem dX6_begin_23 : decode cX6_begin 23 = .ok (.getfield 22, 3) := by decide +kernel
theorem dX6_begin_26 : decode cX6_begin 26 = .ok (.ifCond .le 7, 3) := by decide +kernel
theorem dX6_begin_29 : decode cX6_begin 29 = .ok (.iconst 1, 1) := by decide +kernel
theorem dX6_begin_30 : decode cX6_begin 30 = .ok (.goto 4, 3) := by decide +kernel
theorem dX6_begin_33 : decode cX6_begin 33 = .ok (.iconst 0, 1) := by decide +kernel
theorem dX6_begin_34 : decode cX6_begin 34 = .ok (.ireturn, 1) := by decide +kernel
theorem dX6_finish_0 : decode cX6_finish 0 = .ok (.aload_n 0, 1) := by decide +kernel
theorem dX6_finish_1 : decode cX6_finish 1 = .ok (.getfield 19, 3) := by decide +kernel
theorem dX6_finish_4 : decode cX6_finish 4 = .ok (.aload_n 0, 1) := by decide +kernel
theorem dX6_finish_5 : decode cX6_finish 5 = .ok (.getfield 22, 3) := by decide +kernel
theorem dX6_finish_8 : decode cX6_finish 8 = .ok (.if_icmp .lt 14, 3) := by decide +kernel
theorem dX6_finish_11 : decode cX6_finish 11 = .ok (.aload_n 0, 1) := by decide +kernel
theorem dX6_finish_12 : decode cX6_finish 12 = .ok (.getfield 22, 3) := by decide +kernel
theorem dX6_finish_15 : decode cX6_finish 15 = .ok (.aload_n 0, 1) := by decide +kernel
theorem dX6_finish_16 : decode cX6_finish 16 = .ok (.getfield 15, 3) := by decide +kernel
theorem dX6_finish_19 : decode cX6_finish 19 = .ok (.if_icmp .ge 11, 3) := by decide +kernel
theorem dX6_finish_22 : decode cX6_finish 22 = .ok (.aload_n 0, 1) := by decide +kernel
theorem dX6_finish_23 : decode cX6_finish 23 = .ok (.aload_n 0, 1) := by decide +kernel
theorem dX6_finish_24 : decode cX6_finish 24 = .ok (.getfield 19, 3) := by decide +kernel
theorem dX6_finish_27 : decode cX6_finish 27 = .ok (.invokevirtual 34, 3) := by decide +kernel
theorem dX6_finish_30 : decode cX6_finish 30 = .ok (.aload_n 0, 1) := by decide +kernel
theorem dX6_finish_31 : decode cX6_finish 31 = .ok (.iconst 0, 1) := by decide +kernel
theorem dX6_finish_32 : decode cX6_finish 32 = .ok (.putfield 15, 3) := by decide +kernel
theorem dX6_finish_35 : decode cX6_finish 35 = .ok (.aload_n 0, 1) := by decide +kernel
theorem dX6_finish_36 : decode cX6_finish 36 = .ok (.getfield 25, 3) := by decide +kernel
theorem dX6_finish_39 : decode cX6_finish 39 = .ok (.ireturn, 1) := by decide +kernel
theorem dX6_isGood_0 : decode cX6_isGood 0 = .ok (.aload_n 0, 1) := by decide +kernel
theorem dX6_isGood_1 : decode cX6_isGood 1 = .ok (.getfield 25, 3) := by decide +kernel
theorem dX6_isGood_4 : decode cX6_isGood 4 = .ok (.iconst (-1), 1) := by decide +kernel
theorem dX6_isGood_5 : decode cX6_isGood 5 = .ok (.if_icmp .ne 7, 3) := by decide +kernel
theorem dX6_isGood_8 : decode cX6_isGood 8 = .ok (.iconst 1, 1) := by decide +kernel
theorem dX6_isGood_9 : decode cX6_isGood 9 = .ok (.goto 4, 3) := by decide +kernel
theorem dX6_isGood_12 : decode cX6_isGood 12 = .ok (.iconst 0, 1) := by decide +kernel
theorem dX6_isGood_13 : decode cX6_isGood 13 = .ok (.ireturn, 1) := by decide +kernel
theorem dX6_fail_0 : decode cX6_fail 0 = .ok (.aload_n 0, 1) := by decide +kernel
theorem dX6_fail_1 : decode cX6_fail 1 = .ok (.getfield 25, 3) := by decide +kernel
theorem dX6_fail_4 : decode cX6_fail 4 = .ok (.iconst (-1), 1) := by decide +kernel
theorem dX6_fail_5 : decode cX6_fail 5 = .ok (.if_icmp .ne 8, 3) := by decide +kernel
theorem dX6_fail_8 : decode cX6_fail 8 = .ok (.aload_n 0, 1) := by decide +kernel
theorem dX6_fail_9 : decode cX6_fail 9 = .ok (.iload_n 1, 1) := by decide +kernel
theorem dX6_fail_10 : decode cX6_fail 10 = .ok (.putfield 25, 3) := by decide +kernel
theorem dX6_fail_13 : decode cX6_fail 13 = .ok (.return_, 1) := by decide +kernel
theorem dX6_failHere_0 : decode cX6_failHere 0 = .ok (.aload_n 0, 1) := by decide +kernel
theorem dX6_failHere_1 : decode cX6_failHere 1 = .ok (.aload_n 0, 1) := by decide +kernel
theorem dX6_failHere_2 : decode cX6_failHere 2 = .ok (.getfield 19, 3) := by decide +kernel
theorem dX6_failHere_5 : decode cX6_failHere 5 = .ok (.invokevirtual 34, 3) := by decide +kernel
theorem dX6_failHere_8 : decode cX6_failHere 8 = .ok (.return_, 1) := by decide +kernel
theorem dX6_failAtLastDigit_0 : decode cX6_failAtLastDigit 0 = .ok (.aload_n 0, 1) := by decide +kernel
theorem dX6_failAtLastDigit_1 : decode cX6_failAtLastDigit 1 = .ok (.aload_n 0, 1) := by decide +kernel
theorem dX6_failAtLastDigit_2 : decode cX6_failAtLastDigit 2 = .ok (.getfield 19, 3) := by decide +kernel
theorem dX6_failAtLastDigit_5 : decode cX6_failAtLastDigit 5 = .ok (.iconst 1, 1) := by decide +kernel
theorem dX6_failAtLastDigit_6 : decode cX6_failAtLastDigit 6 = .ok (.isub, 1) := by decide +kernel
theorem dX6_failAtLastDigit_7 : decode cX6_failAtLastDigit 7 = .ok (.invokevirtual 34, 3) := by decide +kernel
theorem dX6_failAtLastDigit_10 : decode cX6_failAtLastDigit 10 = .ok (.return_, 1) := by decide +kernel
theorem dX6_next_0 : decode cX6_next 0 = .ok (.aload_n 0, 1) := by decide +kernel
theorem dX6_next_1 : decode cX6_next 1 = .ok (.getfield 19, 3) := by decide +kernel
theorem dX6_next_4 : decode cX6_next 4 = .ok (.aload_n 0, 1) := by decide +kernel
theorem dX6_next_5 : decode cX6_next 5 = .ok (.getfield 22, 3) := by decide +kernel
theorem dX6_next_8 : decode cX6_next 8 = .ok (.if_icmp .ge 27, 3) := by decide +kernel
theorem dX6_next_11 : decode cX6_next 11 = .ok (.aload_n 0, 1) := by decide +kernel
theorem dX6_next_12 : decode cX6_next 12 = .ok (.getfield 19, 3) := by decide +kernel
theorem dX6_next_15 : decode cX6_next 15 = .ok (.aload_n 0, 1) := by decide +kernel
theorem dX6_next_16 : decode cX6_next 16 = .ok (.getfield 9, 3) := by decide +kernel
theorem dX6_next_19 : decode cX6_next 19 = .ok (.arraylength, 1) := by decide +kernel
theorem dX6_next_20 : decode cX6_next 20 = .ok (.if_icmp .ge 15, 3) := by decide +kernel
theorem dX6_next_23 : decode cX6_next 23 = .ok (.aload_n 0, 1) := by decide +kernel
theorem dX6_next_24 : decode cX6_next 24 = .ok (.getfield 9, 3) := by decide +kernel
theorem dX6_next_27 : decode cX6_next 27 = .ok (.aload_n 0, 1) := by decide +kernel
theorem dX6_next_28 : decode cX6_next 28 = .ok (.getfield 19, 3) := by decide +kernel
theorem dX6_next_31 : decode cX6_next 31 = .ok (.caload, 1) := by decide +kernel
theorem dX6_next_32 : decode cX6_next 32 = .ok (.goto 4, 3) := by decide +kernel
theorem dX6_next_35 : decode cX6_next 35 = .ok (.iconst (-1), 1) := by decide +kernel
theorem dX6_next_36 : decode cX6_next 36 = .ok (.ireturn, 1) := by decide +kernel
theorem dX6_skip_0 : decode cX6_skip 0 = .ok (.aload_n 0, 1) := by decide +kernel
theorem dX6_skip_1 : decode cX6_skip 1 = .ok (.invokevirtual 38, 3) := by decide +kernel
theorem dX6_skip_4 : decode cX6_skip 4 = .ok (.iload_n 1, 1) := by decide +kernel
theorem dX6_skip_5 : decode cX6_skip 5 = .ok (.if_icmp .eq 5, 3) := by decide +kernel
theorem dX6_skip_8 : decode cX6_skip 8 = .ok (.iconst 0, 1) := by decide +kernel
theorem dX6_skip_9 : decode cX6_skip 9 = .ok (.ireturn, 1) := by decide +kernel
theorem dX6_skip_10 : decode cX6_skip 10 = .ok (.aload_n 0, 1) := by decide +kernel
theorem dX6_skip_11 : decode cX6_skip 11 = .ok (.dup, 1) := by decide +kernel
theorem dX6_skip_12 : decode cX6_skip 12 = .ok (.getfield 19, 3) := by decide +kernel
theorem dX6_skip_15 : decode cX6_skip 15 = .ok (.iconst 1, 1) := by decide +kernel
theorem dX6_skip_16 : decode cX6_skip 16 = .ok (.iadd, 1) := by decide +kernel
theorem dX6_skip_17 : decode cX6_skip 17 = .ok (.putfield 19, 3) := by decide +kernel
theorem dX6_skip_20 : decode cX6_skip 20 = .ok (.iconst 1, 1) := by decide +kernel
theorem dX6_skip_21 : decode cX6_skip 21 = .ok (.ireturn, 1) := by decide +kernel
theorem dX6_need_0 : decode cX6_need 0 = .ok (.aload_n 0, 1) := by decide +kernel
theorem dX6_need_1 : decode cX6_need 1 = .ok (.iload_n 1, 1) := by decide +kernel
theorem dX6_need_2 : decode cX6_need 2 = .ok (.invokevirtual 42, 3) := by decide +kernel
theorem dX6_need_5 : decode cX6_need 5 = .ok (.ifCond .ne 7, 3) := by decide +kernel
theorem dX6_need_8 : decode cX6_need 8 = .ok (.aload_n 0, 1) := by decide +kernel
theorem dX6_need_9 : decode cX6_need 9 = .ok (.invokevirtual 46, 3) := by decide +kernel
theorem dX6_need_12 : decode cX6_need 12 = .ok (.return_, 1) := by decide +kernel
theorem dX6_isAtDigit_0 : decode cX6_isAtDigit 0 = .ok (.aload_n 0, 1) := by decide +kernel
theorem dX6_isAtDigit_1 : decode cX6_isAtDigit 1 = .ok (.invokevirtual 38, 3) := by decide +kernel
theorem dX6_isAtDigit_4 : decode cX6_isAtDigit 4 = .ok (.bipush 48, 2) := by decide +kernel
theorem dX6_isAtDigit_6 : decode cX6_isAtDigit 6 = .ok (.bipush 57, 2) := by decide +kernel
theorem dX6_isAtDigit_8 : decode cX6_isAtDigit 8 = .ok (.invokestatic 49, 3) := by decide +kernel
theorem dX6_isAtDigit_11 : decode cX6_isAtDigit 11 = .ok (.ireturn, 1) := by decide +kernel
theorem dX6_number_0 : decode cX6_number 0 = .ok (.iconst 0, 1) := by decide +kernel
theorem dX6_number_1 : decode cX6_number 1 = .ok (.istore_n 3, 1) := by decide +kernel
theorem dX6_number_2 : decode cX6_number 2 = .ok (.iconst 0, 1) := by decide +kernel
theorem dX6_number_3 : decode cX6_number 3 = .ok (.istore 4, 2) := by decide +kernel
theorem dX6_number_5 : decode cX6_number 5 = .ok (.iload 4, 2) := by decide +kernel
theorem dX6_number_7 : decode cX6_number 7 = .ok (.iconst 3, 1) := by decide +kernel
theorem dX6_number_8 : decode cX6_number 8 = .ok (.if_icmp .ge 39, 3) := by decide +kernel
theorem dX6_number_11 : decode cX6_number 11 = .ok (.aload_n 0, 1) := by decide +kernel
theorem dX6_number_12 : decode cX6_number 12 = .ok (.invokevirtual 53, 3) := by decide +kernel
theorem dX6_number_15 : decode cX6_number 15 = .ok (.ifCond .eq 32, 3) := by decide +kernel
theorem dX6_number_18 : decode cX6_number 18 = .ok (.iload_n 3, 1) := by decide +kernel
theorem dX6_number_19 : decode cX6_number 19 = .ok (.bipush 10, 2) := by decide +kernel
theorem dX6_number_21 : decode cX6_number 21 = .ok (.imul, 1) := by decide +kernel
theorem dX6_number_22 : decode cX6_number 22 = .ok (.aload_n 0, 1) := by decide +kernel
theorem dX6_number_23 : decode cX6_number 23 = .ok (.invokevirtual 38, 3) := by decide +kernel
theorem dX6_number_26 : decode cX6_number 26 = .ok (.iadd, 1) := by decide +kernel
theorem dX6_number_27 : decode cX6_number 27 = .ok (.bipush 48, 2) := by decide +kernel
theorem dX6_number_29 : decode cX6_number 29 = .ok (.isub, 1) := by decide +kernel
theorem dX6_number_30 : decode cX6_number 30 = .ok (.istore_n 3, 1) := by decide +kernel
theorem dX6_number_31 : decode cX6_number 31 = .ok (.aload_n 0, 1) := by decide +kernel
theorem dX6_number_32 : decode cX6_number 32 = .ok (.dup, 1) := by decide +kernel
theorem dX6_number_33 : decode cX6_number 33 = .ok (.getfield 19, 3) := by decide +kernel
theorem dX6_number_36 : decode cX6_number 36 = .ok (.iconst 1, 1) := by decide +kernel
theorem dX6_number_37 : decode cX6_number 37 = .ok (.iadd, 1) := by decide +kernel
theorem dX6_number_38 : decode cX6_number 38 = .ok (.putfield 19, 3) := by decide +kernel
theorem dX6_number_41 : decode cX6_number 41 = .ok (.iinc 4 1, 3) := by decide +kernel
theorem dX6_number_44 : decode cX6_number 44 = .ok (.goto (-39), 3) := by decide +kernel
theorem dX6_number_47 : decode cX6_number 47 = .ok (.iload 4, 2) := by decide +kernel
theorem dX6_number_49 : decode cX6_number 49 = .ok (.ifCond .ne 10, 3) := by decide +kernel
theorem dX6_number_52 : decode cX6_number 52 = .ok (.aload_n 0, 1) := by decide +kernel
theorem dX6_number_53 : decode cX6_number 53 = .ok (.invokevirtual 46, 3) := by decide +kernel
theorem dX6_number_56 : decode cX6_number 56 = .ok (.goto 16, 3) := by decide +kernel
theorem dX6_number_59 : decode cX6_number 59 = .ok (.iload_n 3, 1) := by decide +kernel
theorem dX6_number_60 : decode cX6_number 60 = .ok (.iload_n 1, 1) := by decide +kernel
theorem dX6_number_61 : decode cX6_number 61 = .ok (.iload_n 2, 1) := by decide +kernel
theorem dX6_number_62 : decode cX6_number 62 = .ok (.invokestatic 49, 3) := by decide +kernel
theorem dX6_number_65 : decode cX6_number 65 = .ok (.ifCond .ne 7, 3) := by decide +kernel
theorem dX6_number_68 : decode cX6_number 68 = .ok (.aload_n 0, 1) := by decide +kernel
theorem dX6_number_69 : decode cX6_number 69 = .ok (.invokevirtual 57, 3) := by decide +kernel
theorem dX6_number_72 : decode cX6_number 72 = .ok (.iload_n 3, 1) := by decide +kernel
theorem dX6_number_73 : decode cX6_number 73 = .ok (.ireturn, 1) := by decide +kernel
theorem dX7_init_0 : decode cX7_init 0 = .ok (.aload_n 0, 1) := by decide +kernel
theorem dX7_init_1 : decode cX7_init 1 = .ok (.invokespecial 3, 3) := by decide +kernel
theorem dX7_init_4 : decode cX7_init 4 = .ok (.aload_n 0, 1) := by decide +kernel
theorem dX7_init_5 : decode cX7_init 5 = .ok (.new 9, 3) := by decide +kernel
theorem dX7_init_8 : decode cX7_init 8 = .ok (.dup, 1) := by decide +kernel
theorem dX7_init_9 : decode cX7_init 9 = .ok (.invokespecial 11, 3) := by decide +kernel
theorem dX7_init_12 : decode cX7_init 12 = .ok (.putfield 12, 3) := by decide +kernel
theorem dX7_init_15 : decode cX7_init 15 = .ok (.aload_n 0, 1) := by decide +kernel
theorem dX7_init_16 : decode cX7_init 16 = .ok (.aconst_null, 1) := by decide +kernel
theorem dX7_init_17 : decode cX7_init 17 = .ok (.putfield 18, 3) := by decide +kernel
theorem dX7_init_20 : decode cX7_init 20 = .ok (.aload_n 0, 1) := by decide +kernel
theorem dX7_init_21 : decode cX7_init 21 = .ok (.new 22, 3) := by decide +kernel
theorem dX7_init_24 : decode cX7_init 24 = .ok (.dup, 1) := by decide +kernel
theorem dX7_init_25 : decode cX7_init 25 = .ok (.invokespecial 24, 3) := by decide +kernel
theorem dX7_init_28 : decode cX7_init 28 = .ok (.putfield 25, 3) := by decide +kernel
theorem dX7_init_31 : decode cX7_init 31 = .ok (.aload_n 0, 1) := by decide +kernel
theorem dX7_init_32 : decode cX7_init 32 = .ok (.iconst 0, 1) := by decide +kernel
theorem dX7_init_33 : decode cX7_init 33 = .ok (.putfield 29, 3) := by decide +kernel
theorem dX7_init_36 : decode cX7_init 36 = .ok (.aload_n 0, 1) := by decide +kernel
theorem dX7_init_37 : decode cX7_init 37 = .ok (.iconst 0, 1) := by decide +kernel
theorem dX7_init_38 : decode cX7_init 38 = .ok (.putfield 33, 3) := by decide +kernel
theorem dX7_init_41 : decode cX7_init 41 = .ok (.aload_n 0, 1) := by decide +kernel
theorem dX7_init_42 : decode cX7_init 42 = .ok (.iconst (-1), 1) := by decide +kernel
theorem dX7_init_43 : decode cX7_init 43 = .ok (.putfield 37, 3) := by decide +kernel
theorem dX7_init_46 : decode cX7_init 46 = .ok (.aload_n 0, 1) := by decide +kernel
theorem dX7_init_47 : decode cX7_init 47 = .ok (.iconst 0, 1) := by decide +kernel
theorem dX7_init_48 : decode cX7_init 48 = .ok (.putfield 40, 3) := by decide +kernel
theorem dX7_init_51 : decode cX7_init 51 = .ok (.aload_n 0, 1) := by decide +kernel
theorem dX7_init_52 : decode cX7_init 52 = .ok (.iconst 0, 1) := by decide +kernel
theorem dX7_init_53 : decode cX7_init 53 = .ok (.putfield 43, 3) := by decide +kernel
theorem dX7_init_56 : decode cX7_init 56 = .ok (.aload_n 0, 1) := by decide +kernel
theorem dX7_init_57 : decode cX7_init 57 = .ok (.sipush 1040, 3) := by decide +kernel
theorem dX7_init_60 : decode cX7_init 60 = .ok (.newarray .int, 2) := by decide +kernel
theorem dX7_init_62 : decode cX7_init 62 = .ok (.putfield 46, 3) := by decide +kernel
theorem dX7_init_65 : decode cX7_init 65 = .ok (.aload_n 0, 1) := by decide +kernel
theorem dX7_init_66 : decode cX7_init 66 = .ok (.iconst 0, 1) := by decide +kernel
theorem dX7_init_67 : decode cX7_init 67 = .ok (.putfield 50, 3) := by decide +kernel
theorem dX7_init_70 : decode cX7_init 70 = .ok (.aload_n 0, 1) := by decide +kernel
theorem dX7_init_71 : decode cX7_init 71 = .ok (.sipush 1000, 3) := by decide +kernel
theorem dX7_init_74 : decode cX7_init 74 = .ok (.newarray .int, 2) := by decide +kernel
theorem dX7_init_76 : decode cX7_init 76 = .ok (.putfield 53, 3) := by decide +kernel
theorem dX7_init_79 : decode cX7_init 79 = .ok (.aload_n 0, 1) := by decide +kernel
theorem dX7_init_80 : decode cX7_init 80 = .ok (.sipush 401, 3) := by decide +kernel
theorem dX7_init_83 : decode cX7_init 83 = .ok (.newarray .int, 2) := by decide +kernel
theorem dX7_init_85 : decode cX7_init 85 = .ok (.putfield 56, 3) := by decide +kernel
theorem dX7_init_88 : decode cX7_init 88 = .ok (.return_, 1) := by decide +kernel
theorem dX7_begin_0 : decode cX7_begin 0 = .ok (.aload_n 0, 1) := by decide +kernel
theorem dX7_begin_1 : decode cX7_begin 1 = .ok (.getfield 25, 3) := by decide +kernel
theorem dX7_begin_4 : decode cX7_begin 4 = .ok (.aload_n 0, 1) := by decide +kernel
theorem dX7_begin_5 : decode cX7_begin 5 = .ok (.getfield 12, 3) := by decide +kernel
theorem dX7_begin_8 : decode cX7_begin 8 = .ok (.invokevirtual 59, 3) := by decide +kernel
theorem dX7_begin_11 : decode cX7_begin 11 = .ok (.aload_n 0, 1) := by decide +kernel
theorem dX7_begin_12 : decode cX7_begin 12 = .ok (.getfield 25, 3) := by decide +kernel
theorem dX7_begin_15 : decode cX7_begin 15 = .ok (.iload_n 1, 1) := by decide +kernel
theorem dX7_begin_16 : decode cX7_begin 16 = .ok (.putfield 63, 3) := by decide +kernel
theorem dX7_begin_19 : decode cX7_begin 19 = .ok (.aload_n 0, 1) := by decide +kernel
theorem dX7_begin_20 : decode cX7_begin 20 = .ok (.iconst 0, 1) := by decide +kernel
theorem dX7_begin_21 : decode cX7_begin 21 = .ok (.putfield 29, 3) := by decide +kernel
theorem dX7_begin_24 : decode cX7_begin 24 = .ok (.aload_n 0, 1) := by decide +kernel
theorem dX7_begin_25 : decode cX7_begin 25 = .ok (.iconst 0, 1) := by decide +kernel
theorem dX7_begin_26 : decode cX7_begin 26 = .ok (.putfield 33, 3) := by decide +kernel
theorem dX7_begin_29 : decode cX7_begin 29 = .ok (.aload_n 0, 1) := by decide +kernel
theorem dX7_begin_30 : decode cX7_begin 30 = .ok (.iconst (-1), 1) := by decide +kernel
theorem dX7_begin_31 : decode cX7_begin 31 = .ok (.putfield 37, 3) := by decide +kernel
theorem dX7_begin_34 : decode cX7_begin 34 = .ok (.aload_n 0, 1) := by decide +kernel
theorem dX7_begin_35 : decode cX7_begin 35 = .ok (.iconst 0, 1) := by decide +kernel
theorem dX7_begin_36 : decode cX7_begin 36 = .ok (.putfield 40, 3) := by decide +kernel
theorem dX7_begin_39 : decode cX7_begin 39 = .ok (.aload_n 0, 1) := by decide +kernel
theorem dX7_begin_40 : decode cX7_begin 40 = .ok (.iconst 0, 1) := by decide +kernel
theorem dX7_begin_41 : decode cX7_begin 41 = .ok (.putfield 43, 3) := by decide +kernel
theorem dX7_begin_44 : decode cX7_begin 44 = .ok (.aload_n 0, 1) := by decide +kernel
theorem dX7_begin_45 : decode cX7_begin 45 = .ok (.iconst 0, 1) := by decide +kernel
theorem dX7_begin_46 : decode cX7_begin 46 = .ok (.putfield 50, 3) := by decide +kernel
theorem dX7_begin_49 : decode cX7_begin 49 = .ok (.return_, 1) := by decide +kernel
theorem dX7_spiltOn_0 : decode cX7_spiltOn 0 = .ok (.aload_n 0, 1) := by decide +kernel
theorem dX7_spiltOn_1 : decode cX7_spiltOn 1 = .ok (.iload_n 2, 1) := by decide +kernel
theorem dX7_spiltOn_2 : decode cX7_spiltOn 2 = .ok (.invokevirtual 66, 3) := by decide +kernel
theorem dX7_spiltOn_5 : decode cX7_spiltOn 5 = .ok (.aload_n 0, 1) := by decide +kernel
theorem dX7_spiltOn_6 : decode cX7_spiltOn 6 = .ok (.aload_n 1, 1) := by decide +kernel
theorem dX7_spiltOn_7 : decode cX7_spiltOn 7 = .ok (.iconst 0, 1) := by decide +kernel
theorem dX7_spiltOn_8 : decode cX7_spiltOn 8 = .ok (.aload_n 1, 1) := by decide +kernel
theorem dX7_spiltOn_9 : decode cX7_spiltOn 9 = .ok (.getfield 70, 3) := by decide +kernel
theorem dX7_spiltOn_12 : decode cX7_spiltOn 12 = .ok (.iconst 0, 1) := by decide +kernel
theorem dX7_spiltOn_13 : decode cX7_spiltOn 13 = .ok (.invokevirtual 75, 3) := by decide +kernel
theorem dX7_spiltOn_16 : decode cX7_spiltOn 16 = .ok (.aload_n 0, 1) := by decide +kernel
theorem dX7_spiltOn_17 : decode cX7_spiltOn 17 = .ok (.getfield 33, 3) := by decide +kernel
theorem dX7_spiltOn_20 : decode cX7_spiltOn 20 = .ok (.ireturn, 1) := by decide +kernel
theorem dX7_keepsAll_0 : decode cX7_keepsAll 0 = .ok (.aload_n 0, 1) := by decide +kernel
theorem dX7_keepsAll_1 : decode cX7_keepsAll 1 = .ok (.iconst 1, 1) := by decide +kernel
theorem dX7_keepsAll_2 : decode cX7_keepsAll 2 = .ok (.invokevirtual 66, 3) := by decide +kernel
theorem dX7_keepsAll_5 : decode cX7_keepsAll 5 = .ok (.aload_n 0, 1) := by decide +kernel
theorem dX7_keepsAll_6 : decode cX7_keepsAll 6 = .ok (.iconst 1, 1) := by decide +kernel
theorem dX7_keepsAll_7 : decode cX7_keepsAll 7 = .ok (.putfield 29, 3) := by decide +kernel
theorem dX7_keepsAll_10 : decode cX7_keepsAll 10 = .ok (.aload_n 0, 1) := by decide +kernel
theorem dX7_keepsAll_11 : decode cX7_keepsAll 11 = .ok (.aload_n 1, 1) := by decide +kernel
theorem dX7_keepsAll_12 : decode cX7_keepsAll 12 = .ok (.iconst 0, 1) := by decide +kernel
theorem dX7_keepsAll_13 : decode cX7_keepsAll 13 = .ok (.aload_n 1, 1) := by decide +kernel
theorem dX7_keepsAll_14 : decode cX7_keepsAll 14 = .ok (.getfield 70, 3) := by decide +kernel
theorem dX7_keepsAll_17 : decode cX7_keepsAll 17 = .ok (.iconst 0, 1) := by decide +kernel
theorem dX7_keepsAll_18 : decode cX7_keepsAll 18 = .ok (.invokevirtual 75, 3) := by decide +kernel
theorem dX7_keepsAll_21 : decode cX7_keepsAll 21 = .ok (.aload_n 0, 1) := by decide +kernel
theorem dX7_keepsAll_22 : decode cX7_keepsAll 22 = .ok (.getfield 33, 3) := by decide +kernel
theorem dX7_keepsAll_25 : decode cX7_keepsAll 25 = .ok (.ifCond .ne 7, 3) := by decide +kernel
theorem dX7_keepsAll_28 : decode cX7_keepsAll 28 = .ok (.iconst 1, 1) := by decide +kernel
theorem dX7_keepsAll_29 : decode cX7_keepsAll 29 = .ok (.goto 4, 3) := by decide +kernel
theorem dX7_keepsAll_32 : decode cX7_keepsAll 32 = .ok (.iconst 0, 1) := by decide +kernel
theorem dX7_keepsAll_33 : decode cX7_keepsAll 33 = .ok (.ireturn, 1) := by decide +kernel
theorem dX7_spiltFrom_0 : decode cX7_spiltFrom 0 = .ok (.aload_n 0, 1) := by decide +kernel
theorem dX7_spiltFrom_1 : decode cX7_spiltFrom 1 = .ok (.iconst 1, 1) := by decide +kernel
theorem dX7_spiltFrom_2 : decode cX7_spiltFrom 2 = .ok (.invokevirtual 66, 3) := by decide +kernel
theorem dX7_spiltFrom_5 : decode cX7_spiltFrom 5 = .ok (.aload_n 0, 1) := by decide +kernel
theorem dX7_spiltFrom_6 : decode cX7_spiltFrom 6 = .ok (.aload_n 1, 1) := by decide +kernel
theorem dX7_spiltFrom_7 : decode cX7_spiltFrom 7 = .ok (.iload_n 2, 1) := by decide +kernel
theorem dX7_spiltFrom_8 : decode cX7_spiltFrom 8 = .ok (.aload_n 1, 1) := by decide +kernel
theorem dX7_spiltFrom_9 : decode cX7_spiltFrom 9 = .ok (.getfield 70, 3) := by decide +kernel
theorem dX7_spiltFrom_12 : decode cX7_spiltFrom 12 = .ok (.iconst 0, 1) := by decide +kernel
theorem dX7_spiltFrom_13 : decode cX7_spiltFrom 13 = .ok (.invokevirtual 75, 3) := by decide +kernel
theorem dX7_spiltFrom_16 : decode cX7_spiltFrom 16 = .ok (.aload_n 0, 1) := by decide +kernel
theorem dX7_spiltFrom_17 : decode cX7_spiltFrom 17 = .ok (.getfield 33, 3) := by decide +kernel
theorem dX7_spiltFrom_20 : decode cX7_spiltFrom 20 = .ok (.ireturn, 1) := by decide +kernel
theorem dX7_spiltWithTurn_0 : decode cX7_spiltWithTurn 0 = .ok (.aload_n 0, 1) := by decide +kernel
theorem dX7_spiltWithTurn_1 : decode cX7_spiltWithTurn 1 = .ok (.iconst 1, 1) := by decide +kernel
theorem dX7_spiltWithTurn_2 : decode cX7_spiltWithTurn 2 = .ok (.invokevirtual 66, 3) := by decide +kernel
theorem dX7_spiltWithTurn_5 : decode cX7_spiltWithTurn 5 = .ok (.aload_n 0, 1) := by decide +kernel
theorem dX7_spiltWithTurn_6 : decode cX7_spiltWithTurn 6 = .ok (.aload_n 1, 1) := by decide +kernel
theorem dX7_spiltWithTurn_7 : decode cX7_spiltWithTurn 7 = .ok (.iconst 0, 1) := by decide +kernel
theorem dX7_spiltWithTurn_8 : decode cX7_spiltWithTurn 8 = .ok (.iload_n 2, 1) := by decide +kernel
theorem dX7_spiltWithTurn_9 : decode cX7_spiltWithTurn 9 = .ok (.iconst 0, 1) := by decide +kernel
theorem dX7_spiltWithTurn_10 : decode cX7_spiltWithTurn 10 = .ok (.invokevirtual 75, 3) := by decide +kernel
theorem dX7_spiltWithTurn_13 : decode cX7_spiltWithTurn 13 = .ok (.aload_n 0, 1) := by decide +kernel
theorem dX7_spiltWithTurn_14 : decode cX7_spiltWithTurn 14 = .ok (.aload_n 1, 1) := by decide +kernel
theorem dX7_spiltWithTurn_15 : decode cX7_spiltWithTurn 15 = .ok (.iload_n 2, 1) := by decide +kernel
theorem dX7_spiltWithTurn_16 : decode cX7_spiltWithTurn 16 = .ok (.aload_n 1, 1) := by decide +kernel
theorem dX7_spiltWithTurn_17 : decode cX7_spiltWithTurn 17 = .ok (.getfield 70, 3) := by decide +kernel
theorem dX7_spiltWithTurn_20 : decode cX7_spiltWithTurn 20 = .ok (.iconst 1, 1) := by decide +kernel
theorem dX7_spiltWithTurn_21 : decode cX7_spiltWithTurn 21 = .ok (.invokevirtual 75, 3) := by decide +kernel
theorem dX7_spiltWithTurn_24 : decode cX7_spiltWithTurn 24 = .ok (.aload_n 0, 1) := by decide +kernel
theorem dX7_spiltWithTurn_25 : decode cX7_spiltWithTurn 25 = .ok (.getfield 33, 3) := by decide +kernel
theorem dX7_spiltWithTurn_28 : decode cX7_spiltWithTurn 28 = .ok (.ireturn, 1) := by decide +kernel
theorem dX7_spiltWithPause_0 : decode cX7_spiltWithPause 0 = .ok (.aload_n 0, 1) := by decide +kernel
theorem dX7_spiltWithPause_1 : decode cX7_spiltWithPause 1 = .ok (.iconst 1, 1) := by decide +kernel
theorem dX7_spiltWithPause_2 : decode cX7_spiltWithPause 2 = .ok (.invokevirtual 66, 3) := by decide +kernel
theorem dX7_spiltWithPause_5 : decode cX7_spiltWithPause 5 = .ok (.aload_n 0, 1) := by decide +kernel
theorem dX7_spiltWithPause_6 : decode cX7_spiltWithPause 6 = .ok (.aload_n 1, 1) := by decide +kernel
theorem dX7_spiltWithPause_7 : decode cX7_spiltWithPause 7 = .ok (.iconst 0, 1) := by decide +kernel
theorem dX7_spiltWithPause_8 : decode cX7_spiltWithPause 8 = .ok (.iload_n 2, 1) := by decide +kernel
theorem dX7_spiltWithPause_9 : decode cX7_spiltWithPause 9 = .ok (.iconst 0, 1) := by decide +kernel
theorem dX7_spiltWithPause_10 : decode cX7_spiltWithPause 10 = .ok (.invokevirtual 75, 3) := by decide +kernel
theorem dX7_spiltWithPause_13 : decode cX7_spiltWithPause 13 = .ok (.iconst 0, 1) := by decide +kernel
theorem dX7_spiltWithPause_14 : decode cX7_spiltWithPause 14 = .ok (.istore 4, 2) := by decide +kernel
theorem dX7_spiltWithPause_16 : decode cX7_spiltWithPause 16 = .ok (.iload 4, 2) := by decide +kernel
theorem dX7_spiltWithPause_18 : decode cX7_spiltWithPause 18 = .ok (.iload_n 3, 1) := by decide +kernel
theorem dX7_spiltWithPause_19 : decode cX7_spiltWithPause 19 = .ok (.if_icmp .ge 26, 3) := by decide +kernel
theorem dX7_spiltWithPause_22 : decode cX7_spiltWithPause 22 = .ok (.aload_n 0, 1) := by decide +kernel
theorem dX7_spiltWithPause_23 : decode cX7_spiltWithPause 23 = .ok (.aload_n 0, 1) := by decide +kernel
theorem dX7_spiltWithPause_24 : decode cX7_spiltWithPause 24 = .ok (.getfield 25, 3) := by decide +kernel
theorem dX7_spiltWithPause_27 : decode cX7_spiltWithPause 27 = .ok (.aload_n 0, 1) := by decide +kernel
theorem dX7_spiltWithPause_28 : decode cX7_spiltWithPause 28 = .ok (.getfield 12, 3) := by decide +kernel
theorem dX7_spiltWithPause_31 : decode cX7_spiltWithPause 31 = .ok (.iconst 0, 1) := by decide +kernel
theorem dX7_spiltWithPause_32 : decode cX7_spiltWithPause 32 = .ok (.iconst 0, 1) := by decide +kernel
theorem dX7_spiltWithPause_33 : decode cX7_spiltWithPause 33 = .ok (.invokevirtual 79, 3) := by decide +kernel
theorem dX7_spiltWithPause_36 : decode cX7_spiltWithPause 36 = .ok (.invokevirtual 83, 3) := by decide +kernel
theorem dX7_spiltWithPause_39 : decode cX7_spiltWithPause 39 = .ok (.iinc 4 1, 3) := by decide +kernel
theorem dX7_spiltWithPause_42 : decode cX7_spiltWithPause 42 = .ok (.goto (-26), 3) := by decide +kernel
theorem dX7_spiltWithPause_45 : decode cX7_spiltWithPause 45 = .ok (.aload_n 0, 1) := by decide +kernel
theorem dX7_spiltWithPause_46 : decode cX7_spiltWithPause 46 = .ok (.aload_n 1, 1) := by decide +kernel
theorem dX7_spiltWithPause_47 : decode cX7_spiltWithPause 47 = .ok (.iload_n 2, 1) := by decide +kernel
theorem dX7_spiltWithPause_48 : decode cX7_spiltWithPause 48 = .ok (.aload_n 1, 1) := by decide +kernel
theorem dX7_spiltWithPause_49 : decode cX7_spiltWithPause 49 = .ok (.getfield 70, 3) := by decide +kernel
theorem dX7_spiltWithPause_52 : decode cX7_spiltWithPause 52 = .ok (.iconst 0, 1) := by decide +kernel
theorem dX7_spiltWithPause_53 : decode cX7_spiltWithPause 53 = .ok (.invokevirtual 75, 3) := by decide +kernel
theorem dX7_spiltWithPause_56 : decode cX7_spiltWithPause 56 = .ok (.aload_n 0, 1) := by decide +kernel
theorem dX7_spiltWithPause_57 : decode cX7_spiltWithPause 57 = .ok (.getfield 33, 3) := by decide +kernel
theorem dX7_spiltWithPause_60 : decode cX7_spiltWithPause 60 = .ok (.ireturn, 1) := by decide +kernel
theorem dX7_through_0 : decode cX7_through 0 = .ok (.iload_n 3, 1) := by decide +kernel
theorem dX7_through_1 : decode cX7_through 1 = .ok (.aload_n 1, 1) := by decide +kernel
theorem dX7_through_2 : decode cX7_through 2 = .ok (.getfield 70, 3) := by decide +kernel
theorem dX7_through_5 : decode cX7_through 5 = .ok (.invokestatic 86, 3) := by decide +kernel
theorem dX7_through_8 : decode cX7_through 8 = .ok (.istore 5, 2) := by decide +kernel
theorem dX7_through_10 : decode cX7_through 10 = .ok (.iconst 0, 1) := by decide +kernel
theorem dX7_through_11 : decode cX7_through 11 = .ok (.iload_n 2, 1) := by decide +kernel
theorem dX7_through_12 : decode cX7_through 12 = .ok (.invokestatic 92, 3) := by decide +kernel
theorem dX7_through_15 : decode cX7_through 15 = .ok (.istore 6, 2) := by decide +kernel
theorem dX7_through_17 : decode cX7_through 17 = .ok (.iload 6, 2) := by decide +kernel
theorem dX7_through_19 : decode cX7_through 19 = .ok (.iload 5, 2) := by decide +kernel
theorem dX7_through_21 : decode cX7_through 21 = .ok (.if_icmp .ge 48, 3) := by decide +kernel
theorem dX7_through_24 : decode cX7_through 24 = .ok (.aload_n 0, 1) := by decide +kernel
theorem dX7_through_25 : decode cX7_through 25 = .ok (.aload_n 0, 1) := by decide +kernel
theorem dX7_through_26 : decode cX7_through 26 = .ok (.getfield 25, 3) := by decide +kernel
theorem dX7_through_29 : decode cX7_through 29 = .ok (.aload_n 0, 1) := by decide +kernel
theorem dX7_through_30 : decode cX7_through 30 = .ok (.getfield 12, 3) := by decide +kernel
theorem dX7_through_33 : decode cX7_through 33 = .ok (.aload_n 0, 1) := by decide +kernel
theorem dX7_through_34 : decode cX7_through 34 = .ok (.getfield 18, 3) := by decide +kernel
theorem dX7_through_37 : decode cX7_through 37 = .ok (.aload_n 1, 1) := by decide +kernel
theorem dX7_through_38 : decode cX7_through 38 = .ok (.iload 6, 2) := by decide +kernel
theorem dX7_through_40 : decode cX7_through 40 = .ok (.iload 4, 2) := by decide +kernel
theorem dX7_through_42 : decode cX7_through 42 = .ok (.invokevirtual 95, 3) := by decide +kernel
theorem dX7_through_45 : decode cX7_through 45 = .ok (.invokevirtual 83, 3) := by decide +kernel
theorem dX7_through_48 : decode cX7_through 48 = .ok (.aload_n 0, 1) := by decide +kernel
theorem dX7_through_49 : decode cX7_through 49 = .ok (.getfield 29, 3) := by decide +kernel
theorem dX7_through_52 : decode cX7_through 52 = .ok (.ifCond .eq 11, 3) := by decide +kernel
theorem dX7_through_55 : decode cX7_through 55 = .ok (.aload_n 0, 1) := by decide +kernel
theorem dX7_through_56 : decode cX7_through 56 = .ok (.getfield 33, 3) := by decide +kernel
theorem dX7_through_59 : decode cX7_through 59 = .ok (.ifCond .le 4, 3) := by decide +kernel
theorem dX7_through_62 : decode cX7_through 62 = .ok (.return_, 1) := by decide +kernel
theorem dX7_through_63 : decode cX7_through 63 = .ok (.iinc 6 1, 3) := by decide +kernel
theorem dX7_through_66 : decode cX7_through 66 = .ok (.goto (-49), 3) := by decide +kernel
theorem dX7_through_69 : decode cX7_through 69 = .ok (.return_, 1) := by decide +kernel
theorem dX7_note_0 : decode cX7_note 0 = .ok (.aload_n 0, 1) := by decide +kernel
theorem dX7_note_1 : decode cX7_note 1 = .ok (.dup, 1) := by decide +kernel
theorem dX7_note_2 : decode cX7_note 2 = .ok (.getfield 33, 3) := by decide +kernel
theorem dX7_note_5 : decode cX7_note 5 = .ok (.iload_n 1, 1) := by decide +kernel
theorem dX7_note_6 : decode cX7_note 6 = .ok (.iadd, 1) := by decide +kernel
theorem dX7_note_7 : decode cX7_note 7 = .ok (.putfield 33, 3) := by decide +kernel
theorem dX7_note_10 : decode cX7_note 10 = .ok (.iload_n 1, 1) := by decide +kernel
theorem dX7_note_11 : decode cX7_note 11 = .ok (.ifCond .le 24, 3) := by decide +kernel
theorem dX7_note_14 : decode cX7_note 14 = .ok (.aload_n 0, 1) := by decide +kernel
theorem dX7_note_15 : decode cX7_note 15 = .ok (.getfield 37, 3) := by decide +kernel
theorem dX7_note_18 : decode cX7_note 18 = .ok (.iconst (-1), 1) := by decide +kernel
theorem dX7_note_19 : decode cX7_note 19 = .ok (.if_icmp .ne 16, 3) := by decide +kernel
theorem dX7_note_22 : decode cX7_note 22 = .ok (.aload_n 0, 1) := by decide +kernel
theorem dX7_note_23 : decode cX7_note 23 = .ok (.aload_n 0, 1) := by decide +kernel
theorem dX7_note_24 : decode cX7_note 24 = .ok (.getfield 25, 3) := by decide +kernel
theorem dX7_note_27 : decode cX7_note 27 = .ok (.getfield 99, 3) := by decide +kernel
theorem dX7_note_30 : decode cX7_note 30 = .ok (.iconst 1, 1) := by decide +kernel
theorem dX7_note_31 : decode cX7_note 31 = .ok (.isub, 1) := by decide +kernel
theorem dX7_note_32 : decode cX7_note 32 = .ok (.putfield 37, 3) := by decide +kernel
theorem dX7_note_35 : decode cX7_note 35 = .ok (.iload_n 1, 1) := by decide +kernel
theorem dX7_note_36 : decode cX7_note 36 = .ok (.ifCond .le 43, 3) := by decide +kernel
theorem dX7_note_39 : decode cX7_note 39 = .ok (.aload_n 0, 1) := by decide +kernel
theorem dX7_note_40 : decode cX7_note 40 = .ok (.getfield 50, 3) := by decide +kernel
theorem dX7_note_43 : decode cX7_note 43 = .ok (.aload_n 0, 1) := by decide +kernel
theorem dX7_note_44 : decode cX7_note 44 = .ok (.getfield 46, 3) := by decide +kernel
theorem dX7_note_47 : decode cX7_note 47 = .ok (.arraylength, 1) := by decide +kernel
theorem dX7_note_48 : decode cX7_note 48 = .ok (.if_icmp .ge 31, 3) := by decide +kernel
theorem dX7_note_51 : decode cX7_note 51 = .ok (.aload_n 0, 1) := by decide +kernel
theorem dX7_note_52 : decode cX7_note 52 = .ok (.getfield 46, 3) := by decide +kernel
theorem dX7_note_55 : decode cX7_note 55 = .ok (.aload_n 0, 1) := by decide +kernel
theorem dX7_note_56 : decode cX7_note 56 = .ok (.getfield 50, 3) := by decide +kernel
theorem dX7_note_59 : decode cX7_note 59 = .ok (.aload_n 0, 1) := by decide +kernel
theorem dX7_note_60 : decode cX7_note 60 = .ok (.getfield 25, 3) := by decide +kernel
theorem dX7_note_63 : decode cX7_note 63 = .ok (.getfield 99, 3) := by decide +kernel
theorem dX7_note_66 : decode cX7_note 66 = .ok (.iconst 1, 1) := by decide +kernel
theorem dX7_note_67 : decode cX7_note 67 = .ok (.isub, 1) := by decide +kernel
theorem dX7_note_68 : decode cX7_note 68 = .ok (.iastore, 1) := by decide +kernel
theorem dX7_note_69 : decode cX7_note 69 = .ok (.aload_n 0, 1) := by decide +kernel
theorem dX7_note_70 : decode cX7_note 70 = .ok (.dup, 1) := by decide +kernel
theorem dX7_note_71 : decode cX7_note 71 = .ok (.getfield 50, 3) := by decide +kernel
theorem dX7_note_74 : decode cX7_note 74 = .ok (.iconst 1, 1) := by decide +kernel
theorem dX7_note_75 : decode cX7_note 75 = .ok (.iadd, 1) := by decide +kernel
theorem dX7_note_76 : decode cX7_note 76 = .ok (.putfield 50, 3) := by decide +kernel
theorem dX7_note_79 : decode cX7_note 79 = .ok (.aload_n 0, 1) := by decide +kernel
theorem dX7_note_80 : decode cX7_note 80 = .ok (.getfield 25, 3) := by decide +kernel
theorem dX7_note_83 : decode cX7_note 83 = .ok (.getfield 102, 3) := by decide +kernel
theorem dX7_note_86 : decode cX7_note 86 = .ok (.aload_n 0, 1) := by decide +kernel
theorem dX7_note_87 : decode cX7_note 87 = .ok (.getfield 12, 3) := by decide +kernel
theorem dX7_note_90 : decode cX7_note 90 = .ok (.invokevirtual 106, 3) := by decide +kernel
theorem dX7_note_93 : decode cX7_note 93 = .ok (.aload_n 0, 1) := by decide +kernel
theorem dX7_note_94 : decode cX7_note 94 = .ok (.getfield 25, 3) := by decide +kernel
theorem dX7_note_97 : decode cX7_note 97 = .ok (.getfield 112, 3) := by decide +kernel
theorem dX7_note_100 : decode cX7_note 100 = .ok (.aload_n 0, 1) := by decide +kernel
theorem dX7_note_101 : decode cX7_note 101 = .ok (.getfield 12, 3) := by decide +kernel
theorem dX7_note_104 : decode cX7_note 104 = .ok (.invokevirtual 106, 3) := by decide +kernel
theorem dX7_note_107 : decode cX7_note 107 = .ok (.invokestatic 92, 3) := by decide +kernel
theorem dX7_note_110 : decode cX7_note 110 = .ok (.istore_n 2, 1) := by decide +kernel
theorem dX7_note_111 : decode cX7_note 111 = .ok (.aload_n 0, 1) := by decide +kernel
theorem dX7_note_112 : decode cX7_note 112 = .ok (.aload_n 0, 1) := by decide +kernel
theorem dX7_note_113 : decode cX7_note 113 = .ok (.getfield 40, 3) := by decide +kernel
theorem dX7_note_116 : decode cX7_note 116 = .ok (.iload_n 2, 1) := by decide +kernel
theorem dX7_note_117 : decode cX7_note 117 = .ok (.invokestatic 92, 3) := by decide +kernel
theorem dX7_note_120 : decode cX7_note 120 = .ok (.putfield 40, 3) := by decide +kernel
theorem dX7_note_123 : decode cX7_note 123 = .ok (.aload_n 0, 1) := by decide +kernel
theorem dX7_note_124 : decode cX7_note 124 = .ok (.aload_n 0, 1) := by decide +kernel
theorem dX7_note_125 : decode cX7_note 125 = .ok (.getfield 43, 3) := by decide +kernel
theorem dX7_note_128 : decode cX7_note 128 = .ok (.aload_n 0, 1) := by decide +kernel
theorem dX7_note_129 : decode cX7_note 129 = .ok (.getfield 25, 3) := by decide +kernel
theorem dX7_note_132 : decode cX7_note 132 = .ok (.getfield 102, 3) := by decide +kernel
theorem dX7_note_135 : decode cX7_note 135 = .ok (.aload_n 0, 1) := by decide +kernel
theorem dX7_note_136 : decode cX7_note 136 = .ok (.getfield 12, 3) := by decide +kernel
theorem dX7_note_139 : decode cX7_note 139 = .ok (.invokevirtual 115, 3) := by decide +kernel
theorem dX7_note_142 : decode cX7_note 142 = .ok (.invokestatic 118, 3) := by decide +kernel
theorem dX7_note_145 : decode cX7_note 145 = .ok (.invokestatic 92, 3) := by decide +kernel
theorem dX7_note_148 : decode cX7_note 148 = .ok (.putfield 43, 3) := by decide +kernel
theorem dX7_note_151 : decode cX7_note 151 = .ok (.return_, 1) := by decide +kernel
theorem dX7_letGo_0 : decode cX7_letGo 0 = .ok (.aload_n 0, 1) := by decide +kernel
theorem dX7_letGo_1 : decode cX7_letGo 1 = .ok (.getfield 25, 3) := by decide +kernel
theorem dX7_letGo_4 : decode cX7_letGo 4 = .ok (.aload_n 0, 1) := by decide +kernel
theorem dX7_letGo_5 : decode cX7_letGo 5 = .ok (.getfield 12, 3) := by decide +kernel
theorem dX7_letGo_8 : decode cX7_letGo 8 = .ok (.invokevirtual 59, 3) := by decide +kernel
theorem dX7_letGo_11 : decode cX7_letGo 11 = .ok (.aload_n 0, 1) := by decide +kernel
theorem dX7_letGo_12 : decode cX7_letGo 12 = .ok (.getfield 25, 3) := by decide +kernel
theorem dX7_letGo_15 : decode cX7_letGo 15 = .ok (.getfield 102, 3) := by decide +kernel
theorem dX7_letGo_18 : decode cX7_letGo 18 = .ok (.aload_n 0, 1) := by decide +kernel
theorem dX7_letGo_19 : decode cX7_letGo 19 = .ok (.getfield 12, 3) := by decide +kernel
theorem dX7_letGo_22 : decode cX7_letGo 22 = .ok (.iload_n 1, 1) := by decide +kernel
theorem dX7_letGo_23 : decode cX7_letGo 23 = .ok (.invokevirtual 122, 3) := by decide +kernel
theorem dX7_letGo_26 : decode cX7_letGo 26 = .ok (.aload_n 0, 1) := by decide +kernel
theorem dX7_letGo_27 : decode cX7_letGo 27 = .ok (.getfield 56, 3) := by decide +kernel
theorem dX7_letGo_30 : decode cX7_letGo 30 = .ok (.iconst 0, 1) := by decide +kernel
theorem dX7_letGo_31 : decode cX7_letGo 31 = .ok (.aload_n 0, 1) := by decide +kernel
theorem dX7_letGo_32 : decode cX7_letGo 32 = .ok (.getfield 25, 3) := by decide +kernel
theorem dX7_letGo_35 : decode cX7_letGo 35 = .ok (.getfield 102, 3) := by decide +kernel
theorem dX7_letGo_38 : decode cX7_letGo 38 = .ok (.aload_n 0, 1) := by decide +kernel
theorem dX7_letGo_39 : decode cX7_letGo 39 = .ok (.getfield 12, 3) := by decide +kernel
theorem dX7_letGo_42 : decode cX7_letGo 42 = .ok (.invokevirtual 115, 3) := by decide +kernel
theorem dX7_letGo_45 : decode cX7_letGo 45 = .ok (.iastore, 1) := by decide +kernel
theorem dX7_letGo_46 : decode cX7_letGo 46 = .ok (.iconst 1, 1) := by decide +kernel
theorem dX7_letGo_47 : decode cX7_letGo 47 = .ok (.istore_n 3, 1) := by decide +kernel
theorem dX7_letGo_48 : decode cX7_letGo 48 = .ok (.iload_n 3, 1) := by decide +kernel
theorem dX7_letGo_49 : decode cX7_letGo 49 = .ok (.iload_n 2, 1) := by decide +kernel
theorem dX7_letGo_50 : decode cX7_letGo 50 = .ok (.if_icmp .gt 52, 3) := by decide +kernel
theorem dX7_letGo_53 : decode cX7_letGo 53 = .ok (.iload_n 3, 1) := by decide +kernel
theorem dX7_letGo_54 : decode cX7_letGo 54 = .ok (.aload_n 0, 1) := by decide +kernel
theorem dX7_letGo_55 : decode cX7_letGo 55 = .ok (.getfield 56, 3) := by decide +kernel
theorem dX7_letGo_58 : decode cX7_letGo 58 = .ok (.arraylength, 1) := by decide +kernel
theorem dX7_letGo_59 : decode cX7_letGo 59 = .ok (.if_icmp .ge 43, 3) := by decide +kernel
theorem dX7_letGo_62 : decode cX7_letGo 62 = .ok (.aload_n 0, 1) := by decide +kernel
theorem dX7_letGo_63 : decode cX7_letGo 63 = .ok (.getfield 25, 3) := by decide +kernel
theorem dX7_letGo_66 : decode cX7_letGo 66 = .ok (.aload_n 0, 1) := by decide +kernel
theorem dX7_letGo_67 : decode cX7_letGo 67 = .ok (.getfield 12, 3) := by decide +kernel
theorem dX7_letGo_70 : decode cX7_letGo 70 = .ok (.iconst 0, 1) := by decide +kernel
theorem dX7_letGo_71 : decode cX7_letGo 71 = .ok (.iconst 0, 1) := by decide +kernel
theorem dX7_letGo_72 : decode cX7_letGo 72 = .ok (.invokevirtual 79, 3) := by decide +kernel
theorem dX7_letGo_75 : decode cX7_letGo 75 = .ok (.pop, 1) := by decide +kernel
theorem dX7_letGo_76 : decode cX7_letGo 76 = .ok (.aload_n 0, 1) := by decide +kernel
theorem dX7_letGo_77 : decode cX7_letGo 77 = .ok (.getfield 56, 3) := by decide +kernel
theorem dX7_letGo_80 : decode cX7_letGo 80 = .ok (.iload_n 3, 1) := by decide +kernel
theorem dX7_letGo_81 : decode cX7_letGo 81 = .ok (.aload_n 0, 1) := by decide +kernel
theorem dX7_letGo_82 : decode cX7_letGo 82 = .ok (.getfield 25, 3) := by decide +kernel
theorem dX7_letGo_85 : decode cX7_letGo 85 = .ok (.getfield 102, 3) := by decide +kernel
theorem dX7_letGo_88 : decode cX7_letGo 88 = .ok (.aload_n 0, 1) := by decide +kernel
theorem dX7_letGo_89 : decode cX7_letGo 89 = .ok (.getfield 12, 3) := by decide +kernel
theorem dX7_letGo_92 : decode cX7_letGo 92 = .ok (.invokevirtual 115, 3) := by decide +kernel
theorem dX7_letGo_95 : decode cX7_letGo 95 = .ok (.iastore, 1) := by decide +kernel
theorem dX7_letGo_96 : decode cX7_letGo 96 = .ok (.iinc 3 1, 3) := by decide +kernel
theorem dX7_letGo_99 : decode cX7_letGo 99 = .ok (.goto (-51), 3) := by decide +kernel
theorem dX7_letGo_102 : decode cX7_letGo 102 = .ok (.aload_n 0, 1) := by decide +kernel
theorem dX7_letGo_103 : decode cX7_letGo 103 = .ok (.getfield 56, 3) := by decide +kernel
theorem dX7_letGo_106 : decode cX7_letGo 106 = .ok (.areturn, 1) := by decide +kernel
theorem dX7_clearFirsts_0 : decode cX7_clearFirsts 0 = .ok (.aload_n 0, 1) := by decide +kernel
theorem dX7_clearFirsts_1 : decode cX7_clearFirsts 1 = .ok (.getfield 53, 3) := by decide +kernel
theorem dX7_clearFirsts_4 : decode cX7_clearFirsts 4 = .ok (.iconst 0, 1) := by decide +kernel
theorem dX7_clearFirsts_5 : decode cX7_clearFirsts 5 = .ok (.invokestatic 126, 3) := by decide +kernel
theorem dX7_clearFirsts_8 : decode cX7_clearFirsts 8 = .ok (.return_, 1) := by decide +kernel
theorem dX7_countFirst_0 : decode cX7_countFirst 0 = .ok (.iload_n 1, 1) := by decide +kernel
theorem dX7_countFirst_1 : decode cX7_countFirst 1 = .ok (.iconst 0, 1) := by decide +kernel
theorem dX7_countFirst_2 : decode cX7_countFirst 2 = .ok (.aload_n 0, 1) := by decide +kernel
theorem dX7_countFirst_3 : decode cX7_countFirst 3 = .ok (.getfield 53, 3) := by decide +kernel
theorem dX7_countFirst_6 : decode cX7_countFirst 6 = .ok (.arraylength, 1) := by decide +kernel
theorem dX7_countFirst_7 : decode cX7_countFirst 7 = .ok (.iconst 1, 1) := by decide +kernel
theorem dX7_countFirst_8 : decode cX7_countFirst 8 = .ok (.isub, 1) := by decide +kernel
theorem dX7_countFirst_9 : decode cX7_countFirst 9 = .ok (.invokestatic 132, 3) := by decide +kernel
theorem dX7_countFirst_12 : decode cX7_countFirst 12 = .ok (.ifCond .eq 13, 3) := by decide +kernel
theorem dX7_countFirst_15 : decode cX7_countFirst 15 = .ok (.aload_n 0, 1) := by decide +kernel
theorem dX7_countFirst_16 : decode cX7_countFirst 16 = .ok (.getfield 53, 3) := by decide +kernel
theorem dX7_countFirst_19 : decode cX7_countFirst 19 = .ok (.iload_n 1, 1) := by decide +kernel
theorem dX7_countFirst_20 : decode cX7_countFirst 20 = .ok (.dup2, 1) := by decide +kernel
theorem dX7_countFirst_21 : decode cX7_countFirst 21 = .ok (.iaload, 1) := by decide +kernel
theorem dX7_countFirst_22 : decode cX7_countFirst 22 = .ok (.iconst 1, 1) := by decide +kernel
theorem dX7_countFirst_23 : decode cX7_countFirst 23 = .ok (.iadd, 1) := by decide +kernel
theorem dX7_countFirst_24 : decode cX7_countFirst 24 = .ok (.iastore, 1) := by decide +kernel
theorem dX7_countFirst_25 : decode cX7_countFirst 25 = .ok (.return_, 1) := by decide +kernel
theorem dX7_mostOftenFirst_0 : decode cX7_mostOftenFirst 0 = .ok (.iconst (-1), 1) := by decide +kernel
theorem dX7_mostOftenFirst_1 : decode cX7_mostOftenFirst 1 = .ok (.istore_n 1, 1) := by decide +kernel
theorem dX7_mostOftenFirst_2 : decode cX7_mostOftenFirst 2 = .ok (.iconst 0, 1) := by decide +kernel
theorem dX7_mostOftenFirst_3 : decode cX7_mostOftenFirst 3 = .ok (.istore_n 2, 1) := by decide +kernel
theorem dX7_mostOftenFirst_4 : decode cX7_mostOftenFirst 4 = .ok (.iconst 0, 1) := by decide +kernel
theorem dX7_mostOftenFirst_5 : decode cX7_mostOftenFirst 5 = .ok (.istore_n 3, 1) := by decide +kernel
theorem dX7_mostOftenFirst_6 : decode cX7_mostOftenFirst 6 = .ok (.iload_n 3, 1) := by decide +kernel
theorem dX7_mostOftenFirst_7 : decode cX7_mostOftenFirst 7 = .ok (.aload_n 0, 1) := by decide +kernel
theorem dX7_mostOftenFirst_8 : decode cX7_mostOftenFirst 8 = .ok (.getfield 53, 3) := by decide +kernel
theorem dX7_mostOftenFirst_11 : decode cX7_mostOftenFirst 11 = .ok (.arraylength, 1) := by decide +kernel
theorem dX7_mostOftenFirst_12 : decode cX7_mostOftenFirst 12 = .ok (.if_icmp .ge 28, 3) := by decide +kernel
theorem dX7_mostOftenFirst_15 : decode cX7_mostOftenFirst 15 = .ok (.aload_n 0, 1) := by decide +kernel
theorem dX7_mostOftenFirst_16 : decode cX7_mostOftenFirst 16 = .ok (.getfield 53, 3) := by decide +kernel
theorem dX7_mostOftenFirst_19 : decode cX7_mostOftenFirst 19 = .ok (.iload_n 3, 1) := by decide +kernel
theorem dX7_mostOftenFirst_20 : decode cX7_mostOftenFirst 20 = .ok (.iaload, 1) := by decide +kernel
theorem dX7_mostOftenFirst_21 : decode cX7_mostOftenFirst 21 = .ok (.iload_n 2, 1) := by decide +kernel
theorem dX7_mostOftenFirst_22 : decode cX7_mostOftenFirst 22 = .ok (.if_icmp .le 12, 3) := by decide +kernel
theorem dX7_mostOftenFirst_25 : decode cX7_mostOftenFirst 25 = .ok (.aload_n 0, 1) := by decide +kernel
theorem dX7_mostOftenFirst_26 : decode cX7_mostOftenFirst 26 = .ok (.getfield 53, 3) := by decide +kernel
theorem dX7_mostOftenFirst_29 : decode cX7_mostOftenFirst 29 = .ok (.iload_n 3, 1) := by decide +kernel
theorem dX7_mostOftenFirst_30 : decode cX7_mostOftenFirst 30 = .ok (.iaload, 1) := by decide +kernel
theorem dX7_mostOftenFirst_31 : decode cX7_mostOftenFirst 31 = .ok (.istore_n 2, 1) := by decide +kernel
theorem dX7_mostOftenFirst_32 : decode cX7_mostOftenFirst 32 = .ok (.iload_n 3, 1) := by decide +kernel
theorem dX7_mostOftenFirst_33 : decode cX7_mostOftenFirst 33 = .ok (.istore_n 1, 1) := by decide +kernel
theorem dX7_mostOftenFirst_34 : decode cX7_mostOftenFirst 34 = .ok (.iinc 3 1, 3) := by decide +kernel
theorem dX7_mostOftenFirst_37 : decode cX7_mostOftenFirst 37 = .ok (.goto (-31), 3) := by decide +kernel
theorem dX7_mostOftenFirst_40 : decode cX7_mostOftenFirst 40 = .ok (.iload_n 1, 1) := by decide +kernel
theorem dX7_mostOftenFirst_41 : decode cX7_mostOftenFirst 41 = .ok (.ireturn, 1) := by decide +kernel
theorem dX8_init_0 : decode cX8_init 0 = .ok (.aload_n 0, 1) := by decide +kernel
theorem dX8_init_1 : decode cX8_init 1 = .ok (.invokespecial 3, 3) := by decide +kernel
theorem dX8_init_4 : decode cX8_init 4 = .ok (.aload_n 0, 1) := by decide +kernel
theorem dX8_init_5 : decode cX8_init 5 = .ok (.sipush 1000, 3) := by decide +kernel
theorem dX8_init_8 : decode cX8_init 8 = .ok (.newarray .int, 2) := by decide +kernel
theorem dX8_init_10 : decode cX8_init 10 = .ok (.putfield 9, 3) := by decide +kernel
theorem dX8_init_13 : decode cX8_init 13 = .ok (.aload_n 0, 1) := by decide +kernel
theorem dX8_init_14 : decode cX8_init 14 = .ok (.sipush 1000, 3) := by decide +kernel
theorem dX8_init_17 : decode cX8_init 17 = .ok (.newarray .int, 2) := by decide +kernel
theorem dX8_init_19 : decode cX8_init 19 = .ok (.putfield 15, 3) := by decide +kernel
theorem dX8_init_22 : decode cX8_init 22 = .ok (.aload_n 0, 1) := by decide +kernel
theorem dX8_init_23 : decode cX8_init 23 = .ok (.sipush 1000, 3) := by decide +kernel
theorem dX8_init_26 : decode cX8_init 26 = .ok (.newarray .int, 2) := by decide +kernel
theorem dX8_init_28 : decode cX8_init 28 = .ok (.putfield 18, 3) := by decide +kernel
theorem dX8_init_31 : decode cX8_init 31 = .ok (.aload_n 0, 1) := by decide +kernel
theorem dX8_init_32 : decode cX8_init 32 = .ok (.sipush 1000, 3) := by decide +kernel
theorem dX8_init_35 : decode cX8_init 35 = .ok (.newarray .int, 2) := by decide +kernel
theorem dX8_init_37 : decode cX8_init 37 = .ok (.putfield 21, 3) := by decide +kernel
theorem dX8_init_40 : decode cX8_init 40 = .ok (.aload_n 0, 1) := by decide +kernel
theorem dX8_init_41 : decode cX8_init 41 = .ok (.iconst 0, 1) := by decide +kernel
theorem dX8_init_42 : decode cX8_init 42 = .ok (.putfield 24, 3) := by decide +kernel
theorem dX8_init_45 : decode cX8_init 45 = .ok (.aload_n 0, 1) := by decide +kernel
theorem dX8_init_46 : decode cX8_init 46 = .ok (.iconst 0, 1) := by decide +kernel
theorem dX8_init_47 : decode cX8_init 47 = .ok (.putfield 28, 3) := by decide +kernel
theorem dX8_init_50 : decode cX8_init 50 = .ok (.aload_n 0, 1) := by decide +kernel
theorem dX8_init_51 : decode cX8_init 51 = .ok (.iconst 0, 1) := by decide +kernel
theorem dX8_init_52 : decode cX8_init 52 = .ok (.putfield 31, 3) := by decide +kernel
theorem dX8_init_55 : decode cX8_init 55 = .ok (.return_, 1) := by decide +kernel
theorem dX8_clear_0 : decode cX8_clear 0 = .ok (.aload_n 0, 1) := by decide +kernel
theorem dX8_clear_1 : decode cX8_clear 1 = .ok (.iconst 0, 1) := by decide +kernel
theorem dX8_clear_2 : decode cX8_clear 2 = .ok (.putfield 24, 3) := by decide +kernel
theorem dX8_clear_5 : decode cX8_clear 5 = .ok (.aload_n 0, 1) := by decide +kernel
theorem dX8_clear_6 : decode cX8_clear 6 = .ok (.iconst 0, 1) := by decide +kernel
theorem dX8_clear_7 : decode cX8_clear 7 = .ok (.putfield 28, 3) := by decide +kernel
theorem dX8_clear_10 : decode cX8_clear 10 = .ok (.aload_n 0, 1) := by decide +kernel
theorem dX8_clear_11 : decode cX8_clear 11 = .ok (.iconst 0, 1) := by decide +kernel
theorem dX8_clear_12 : decode cX8_clear 12 = .ok (.putfield 31, 3) := by decide +kernel
theorem dX8_clear_15 : decode cX8_clear 15 = .ok (.return_, 1) := by decide +kernel
theorem dX8_read_0 : decode cX8_read 0 = .ok (.aload_n 0, 1) := by decide +kernel
theorem dX8_read_1 : decode cX8_read 1 = .ok (.invokevirtual 34, 3) := by decide +kernel
theorem dX8_read_4 : decode cX8_read 4 = .ok (.aload_n 1, 1) := by decide +kernel
theorem dX8_read_5 : decode cX8_read 5 = .ok (.bipush 60, 2) := by decide +kernel
theorem dX8_read_7 : decode cX8_read 7 = .ok (.invokevirtual 37, 3) := by decide +kernel
theorem dX8_read_10 : decode cX8_read 10 = .ok (.ifCond .ne 4, 3) := by decide +kernel
theorem dX8_read_13 : decode cX8_read 13 = .ok (.return_, 1) := by decide +kernel
theorem dX8_read_14 : decode cX8_read 14 = .ok (.aload_n 0, 1) := by decide +kernel
theorem dX8_read_15 : decode cX8_read 15 = .ok (.aload_n 1, 1) := by decide +kernel
theorem dX8_read_16 : decode cX8_read 16 = .ok (.invokevirtual 43, 3) := by decide +kernel
theorem dX8_read_19 : decode cX8_read 19 = .ok (.iconst 0, 1) := by decide +kernel
theorem dX8_read_20 : decode cX8_read 20 = .ok (.istore_n 2, 1) := by decide +kernel
theorem dX8_read_21 : decode cX8_read 21 = .ok (.iload_n 2, 1) := by decide +kernel
theorem dX8_read_22 : decode cX8_read 22 = .ok (.bipush 60, 2) := by decide +kernel
theorem dX8_read_24 : decode cX8_read 24 = .ok (.if_icmp .ge 30, 3) := by decide +kernel
theorem dX8_read_27 : decode cX8_read 27 = .ok (.aload_n 1, 1) := by decide +kernel
theorem dX8_read_28 : decode cX8_read 28 = .ok (.invokevirtual 47, 3) := by decide +kernel
theorem dX8_read_31 : decode cX8_read 31 = .ok (.ifCond .eq 23, 3) := by decide +kernel
theorem dX8_read_34 : decode cX8_read 34 = .ok (.aload_n 1, 1) := by decide +kernel
theorem dX8_read_35 : decode cX8_read 35 = .ok (.bipush 59, 2) := by decide +kernel
theorem dX8_read_37 : decode cX8_read 37 = .ok (.invokevirtual 51, 3) := by decide +kernel
theorem dX8_read_40 : decode cX8_read 40 = .ok (.ifCond .eq 14, 3) := by decide +kernel
theorem dX8_read_43 : decode cX8_read 43 = .ok (.aload_n 0, 1) := by decide +kernel
theorem dX8_read_44 : decode cX8_read 44 = .ok (.aload_n 1, 1) := by decide +kernel
theorem dX8_read_45 : decode cX8_read 45 = .ok (.invokevirtual 43, 3) := by decide +kernel
theorem dX8_read_48 : decode cX8_read 48 = .ok (.iinc 2 1, 3) := by decide +kernel
theorem dX8_read_51 : decode cX8_read 51 = .ok (.goto (-30), 3) := by decide +kernel
theorem dX8_read_54 : decode cX8_read 54 = .ok (.return_, 1) := by decide +kernel
theorem dX8_readPart_0 : decode cX8_readPart 0 = .ok (.aload_n 1, 1) := by decide +kernel
theorem dX8_readPart_1 : decode cX8_readPart 1 = .ok (.bipush 103, 2) := by decide +kernel
theorem dX8_readPart_3 : decode cX8_readPart 3 = .ok (.invokevirtual 51, 3) := by decide +kernel
theorem dX8_readPart_6 : decode cX8_readPart 6 = .ok (.ifCond .eq 11, 3) := by decide +kernel
theorem dX8_readPart_9 : decode cX8_readPart 9 = .ok (.aload_n 0, 1) := by decide +kernel
theorem dX8_readPart_10 : decode cX8_readPart 10 = .ok (.aload_n 1, 1) := by decide +kernel
theorem dX8_readPart_11 : decode cX8_readPart 11 = .ok (.invokevirtual 55, 3) := by decide +kernel
theorem dX8_readPart_14 : decode cX8_readPart 14 = .ok (.goto 64, 3) := by decide +kernel
theorem dX8_readPart_17 : decode cX8_readPart 17 = .ok (.aload_n 1, 1) := by decide +kernel
theorem dX8_readPart_18 : decode cX8_readPart 18 = .ok (.bipush 115, 2) := by decide +kernel
theorem dX8_readPart_20 : decode cX8_readPart 20 = .ok (.invokevirtual 51, 3) := by decide +kernel
theorem dX8_readPart_23 : decode cX8_readPart 23 = .ok (.ifCond .eq 11, 3) := by decide +kernel
theorem dX8_readPart_26 : decode cX8_readPart 26 = .ok (.aload_n 0, 1) := by decide +kernel
theorem dX8_readPart_27 : decode cX8_readPart 27 = .ok (.aload_n 1, 1) := by decide +kernel
theorem dX8_readPart_28 : decode cX8_readPart 28 = .ok (.invokevirtual 58, 3) := by decide +kernel
theorem dX8_readPart_31 : decode cX8_readPart 31 = .ok (.goto 47, 3) := by decide +kernel
theorem dX8_readPart_34 : decode cX8_readPart 34 = .ok (.aload_n 1, 1) := by decide +kernel
theorem dX8_readPart_35 : decode cX8_readPart 35 = .ok (.bipush 106, 2) := by decide +kernel
theorem dX8_readPart_37 : decode cX8_readPart 37 = .ok (.invokevirtual 51, 3) := by decide +kernel
theorem dX8_readPart_40 : decode cX8_readPart 40 = .ok (.ifCond .eq 11, 3) := by decide +kernel
theorem dX8_readPart_43 : decode cX8_readPart 43 = .ok (.aload_n 0, 1) := by decide +kernel
theorem dX8_readPart_44 : decode cX8_readPart 44 = .ok (.aload_n 1, 1) := by decide +kernel
theorem dX8_readPart_45 : decode cX8_readPart 45 = .ok (.invokevirtual 61, 3) := by decide +kernel
theorem dX8_readPart_48 : decode cX8_readPart 48 = .ok (.goto 30, 3) := by decide +kernel
theorem dX8_readPart_51 : decode cX8_readPart 51 = .ok (.aload_n 1, 1) := by decide +kernel
theorem dX8_readPart_52 : decode cX8_readPart 52 = .ok (.bipush 119, 2) := by decide +kernel
theorem dX8_readPart_54 : decode cX8_readPart 54 = .ok (.invokevirtual 51, 3) := by decide +kernel
theorem dX8_readPart_57 : decode cX8_readPart 57 = .ok (.ifCond .eq 17, 3) := by decide +kernel
theorem dX8_readPart_60 : decode cX8_readPart 60 = .ok (.aload_n 0, 1) := by decide +kernel
theorem dX8_readPart_61 : decode cX8_readPart 61 = .ok (.aload_n 1, 1) := by decide +kernel
theorem dX8_readPart_62 : decode cX8_readPart 62 = .ok (.iconst 0, 1) := by decide +kernel
theorem dX8_readPart_63 : decode cX8_readPart 63 = .ok (.bipush 50, 2) := by decide +kernel
theorem dX8_readPart_65 : decode cX8_readPart 65 = .ok (.invokevirtual 64, 3) := by decide +kernel
theorem dX8_readPart_68 : decode cX8_readPart 68 = .ok (.putfield 31, 3) := by decide +kernel
theorem dX8_readPart_71 : decode cX8_readPart 71 = .ok (.goto 7, 3) := by decide +kernel
theorem dX8_readPart_74 : decode cX8_readPart 74 = .ok (.aload_n 1, 1) := by decide +kernel
theorem dX8_readPart_75 : decode cX8_readPart 75 = .ok (.invokevirtual 68, 3) := by decide +kernel
theorem dX8_readPart_78 : decode cX8_readPart 78 = .ok (.return_, 1) := by decide +kernel
theorem dX8_readSteps_0 : decode cX8_readSteps 0 = .ok (.aload_n 1, 1) := by decide +kernel
theorem dX8_readSteps_1 : decode cX8_readSteps 1 = .ok (.iconst 0, 1) := by decide +kernel
theorem dX8_readSteps_2 : decode cX8_readSteps 2 = .ok (.sipush 200, 3) := by decide +kernel
theorem dX8_readSteps_5 : decode cX8_readSteps 5 = .ok (.invokevirtual 64, 3) := by decide +kernel
theorem dX8_readSteps_8 : decode cX8_readSteps 8 = .ok (.istore_n 2, 1) := by decide +kernel
theorem dX8_readSteps_9 : decode cX8_readSteps 9 = .ok (.aload_n 1, 1) := by decide +kernel
theorem dX8_readSteps_10 : decode cX8_readSteps 10 = .ok (.bipush 44, 2) := by decide +kernel
theorem dX8_readSteps_12 : decode cX8_readSteps 12 = .ok (.invokevirtual 71, 3) := by decide +kernel
theorem dX8_readSteps_15 : decode cX8_readSteps 15 = .ok (.aload_n 1, 1) := by decide +kernel
theorem dX8_readSteps_16 : decode cX8_readSteps 16 = .ok (.iconst 2, 1) := by decide +kernel
theorem dX8_readSteps_17 : decode cX8_readSteps 17 = .ok (.bipush 40, 2) := by decide +kernel
theorem dX8_readSteps_19 : decode cX8_readSteps 19 = .ok (.invokevirtual 64, 3) := by decide +kernel
theorem dX8_readSteps_22 : decode cX8_readSteps 22 = .ok (.istore_n 3, 1) := by decide +kernel
theorem dX8_readSteps_23 : decode cX8_readSteps 23 = .ok (.aload_n 1, 1) := by decide +kernel
theorem dX8_readSteps_24 : decode cX8_readSteps 24 = .ok (.bipush 44, 2) := by decide +kernel
theorem dX8_readSteps_26 : decode cX8_readSteps 26 = .ok (.invokevirtual 71, 3) := by decide +kernel
theorem dX8_readSteps_29 : decode cX8_readSteps 29 = .ok (.aload_n 1, 1) := by decide +kernel
theorem dX8_readSteps_30 : decode cX8_readSteps 30 = .ok (.iconst 0, 1) := by decide +kernel
theorem dX8_readSteps_31 : decode cX8_readSteps 31 = .ok (.sipush 200, 3) := by decide +kernel
theorem dX8_readSteps_34 : decode cX8_readSteps 34 = .ok (.invokevirtual 64, 3) := by decide +kernel
theorem dX8_readSteps_37 : decode cX8_readSteps 37 = .ok (.istore 4, 2) := by decide +kernel
theorem dX8_readSteps_39 : decode cX8_readSteps 39 = .ok (.aload_n 1, 1) := by decide +kernel
theorem dX8_readSteps_40 : decode cX8_readSteps 40 = .ok (.bipush 42, 2) := by decide +kernel
theorem dX8_readSteps_42 : decode cX8_readSteps 42 = .ok (.invokevirtual 71, 3) := by decide +kernel
theorem dX8_readSteps_45 : decode cX8_readSteps 45 = .ok (.aload_n 1, 1) := by decide +kernel
theorem dX8_readSteps_46 : decode cX8_readSteps 46 = .ok (.iconst 1, 1) := by decide +kernel
theorem dX8_readSteps_47 : decode cX8_readSteps 47 = .ok (.bipush 50, 2) := by decide +kernel
theorem dX8_readSteps_49 : decode cX8_readSteps 49 = .ok (.invokevirtual 64, 3) := by decide +kernel
theorem dX8_readSteps_52 : decode cX8_readSteps 52 = .ok (.istore 5, 2) := by decide +kernel
theorem dX8_readSteps_54 : decode cX8_readSteps 54 = .ok (.aload_n 0, 1) := by decide +kernel
theorem dX8_readSteps_55 : decode cX8_readSteps 55 = .ok (.aload_n 1, 1) := by decide +kernel
theorem dX8_readSteps_56 : decode cX8_readSteps 56 = .ok (.iload_n 3, 1) := by decide +kernel
theorem dX8_readSteps_57 : decode cX8_readSteps 57 = .ok (.iload 5, 2) := by decide +kernel
theorem dX8_readSteps_59 : decode cX8_readSteps 59 = .ok (.imul, 1) := by decide +kernel
theorem dX8_readSteps_60 : decode cX8_readSteps 60 = .ok (.invokevirtual 75, 3) := by decide +kernel
theorem dX8_readSteps_63 : decode cX8_readSteps 63 = .ok (.ifCond .eq 13, 3) := by decide +kernel
theorem dX8_readSteps_66 : decode cX8_readSteps 66 = .ok (.aload_n 0, 1) := by decide +kernel
theorem dX8_readSteps_67 : decode cX8_readSteps 67 = .ok (.iload_n 2, 1) := by decide +kernel
theorem dX8_readSteps_68 : decode cX8_readSteps 68 = .ok (.iload_n 3, 1) := by decide +kernel
theorem dX8_readSteps_69 : decode cX8_readSteps 69 = .ok (.iload 4, 2) := by decide +kernel
theorem dX8_readSteps_71 : decode cX8_readSteps 71 = .ok (.iload 5, 2) := by decide +kernel
theorem dX8_readSteps_73 : decode cX8_readSteps 73 = .ok (.invokevirtual 79, 3) := by decide +kernel
theorem dX8_readSteps_76 : decode cX8_readSteps 76 = .ok (.return_, 1) := by decide +kernel
theorem dX8_readStand_0 : decode cX8_readStand 0 = .ok (.aload_n 1, 1) := by decide +kernel
theorem dX8_readStand_1 : decode cX8_readStand 1 = .ok (.iconst 1, 1) := by decide +kernel
theorem dX8_readStand_2 : decode cX8_readStand 2 = .ok (.bipush 99, 2) := by decide +kernel
theorem dX8_readStand_4 : decode cX8_readStand 4 = .ok (.invokevirtual 64, 3) := by decide +kernel
theorem dX8_readStand_7 : decode cX8_readStand 7 = .ok (.istore_n 2, 1) := by decide +kernel
theorem dX8_readStand_8 : decode cX8_readStand 8 = .ok (.aload_n 0, 1) := by decide +kernel
theorem dX8_readStand_9 : decode cX8_readStand 9 = .ok (.aload_n 1, 1) := by decide +kernel
theorem dX8_readStand_10 : decode cX8_readStand 10 = .ok (.iload_n 2, 1) := by decide +kernel
theorem dX8_readStand_11 : decode cX8_readStand 11 = .ok (.invokevirtual 75, 3) := by decide +kernel
theorem dX8_readStand_14 : decode cX8_readStand 14 = .ok (.ifCond .eq 23, 3) := by decide +kernel
theorem dX8_readStand_17 : decode cX8_readStand 17 = .ok (.iconst 0, 1) := by decide +kernel
theorem dX8_readStand_18 : decode cX8_readStand 18 = .ok (.istore_n 3, 1) := by decide +kernel
theorem dX8_readStand_19 : decode cX8_readStand 19 = .ok (.iload_n 3, 1) := by decide +kernel
theorem dX8_readStand_20 : decode cX8_readStand 20 = .ok (.iload_n 2, 1) := by decide +kernel
theorem dX8_readStand_21 : decode cX8_readStand 21 = .ok (.if_icmp .ge 16, 3) := by decide +kernel
theorem dX8_readStand_24 : decode cX8_readStand 24 = .ok (.aload_n 0, 1) := by decide +kernel
theorem dX8_readStand_25 : decode cX8_readStand 25 = .ok (.iconst 0, 1) := by decide +kernel
theorem dX8_readStand_26 : decode cX8_readStand 26 = .ok (.iconst 0, 1) := by decide +kernel
theorem dX8_readStand_27 : decode cX8_readStand 27 = .ok (.iconst (-1), 1) := by decide +kernel
theorem dX8_readStand_28 : decode cX8_readStand 28 = .ok (.invokevirtual 83, 3) := by decide +kernel
theorem dX8_readStand_31 : decode cX8_readStand 31 = .ok (.iinc 3 1, 3) := by decide +kernel
theorem dX8_readStand_34 : decode cX8_readStand 34 = .ok (.goto (-15), 3) := by decide +kernel
theorem dX8_readStand_37 : decode cX8_readStand 37 = .ok (.return_, 1) := by decide +kernel
theorem dX8_readJerk_0 : decode cX8_readJerk 0 = .ok (.aload_n 1, 1) := by decide +kernel
theorem dX8_readJerk_1 : decode cX8_readJerk 1 = .ok (.bipush 45, 2) := by decide +kernel
theorem dX8_readJerk_3 : decode cX8_readJerk 3 = .ok (.invokevirtual 51, 3) := by decide +kernel
theorem dX8_readJerk_6 : decode cX8_readJerk 6 = .ok (.istore_n 2, 1) := by decide +kernel
theorem dX8_readJerk_7 : decode cX8_readJerk 7 = .ok (.aload_n 1, 1) := by decide +kernel
theorem dX8_readJerk_8 : decode cX8_readJerk 8 = .ok (.iconst 0, 1) := by decide +kernel
theorem dX8_readJerk_9 : decode cX8_readJerk 9 = .ok (.sipush 200, 3) := by decide +kernel
theorem dX8_readJerk_12 : decode cX8_readJerk 12 = .ok (.invokevirtual 64, 3) := by decide +kernel
theorem dX8_readJerk_15 : decode cX8_readJerk 15 = .ok (.istore_n 3, 1) := by decide +kernel
theorem dX8_readJerk_16 : decode cX8_readJerk 16 = .ok (.aload_n 0, 1) := by decide +kernel
theorem dX8_readJerk_17 : decode cX8_readJerk 17 = .ok (.aload_n 1, 1) := by decide +kernel
theorem dX8_readJerk_18 : decode cX8_readJerk 18 = .ok (.iconst 1, 1) := by decide +kernel
theorem dX8_readJerk_19 : decode cX8_readJerk 19 = .ok (.invokevirtual 75, 3) := by decide +kernel
theorem dX8_readJerk_22 : decode cX8_readJerk 22 = .ok (.ifCond .eq 19, 3) := by decide +kernel
theorem dX8_readJerk_25 : decode cX8_readJerk 25 = .ok (.aload_n 0, 1) := by decide +kernel
theorem dX8_readJerk_26 : decode cX8_readJerk 26 = .ok (.iload_n 2, 1) := by decide +kernel
theorem dX8_readJerk_27 : decode cX8_readJerk 27 = .ok (.ifCond .eq 8, 3) := by decide +kernel
theorem dX8_readJerk_30 : decode cX8_readJerk 30 = .ok (.iload_n 3, 1) := by decide +kernel
theorem dX8_readJerk_31 : decode cX8_readJerk 31 = .ok (.ineg, 1) := by decide +kernel
theorem dX8_readJerk_32 : decode cX8_readJerk 32 = .ok (.goto 4, 3) := by decide +kernel
theorem dX8_readJerk_35 : decode cX8_readJerk 35 = .ok (.iload_n 3, 1) := by decide +kernel
theorem dX8_readJerk_36 : decode cX8_readJerk 36 = .ok (.iconst 0, 1) := by decide +kernel
theorem dX8_readJerk_37 : decode cX8_readJerk 37 = .ok (.iconst (-1), 1) := by decide +kernel
theorem dX8_readJerk_38 : decode cX8_readJerk 38 = .ok (.invokevirtual 83, 3) := by decide +kernel
theorem dX8_readJerk_41 : decode cX8_readJerk 41 = .ok (.return_, 1) := by decide +kernel
theorem dX8_hasRoom_0 : decode cX8_hasRoom 0 = .ok (.aload_n 1, 1) := by decide +kernel
theorem dX8_hasRoom_1 : decode cX8_hasRoom 1 = .ok (.invokevirtual 47, 3) := by decide +kernel
theorem dX8_hasRoom_4 : decode cX8_hasRoom 4 = .ok (.ifCond .eq 19, 3) := by decide +kernel
theorem dX8_hasRoom_7 : decode cX8_hasRoom 7 = .ok (.aload_n 0, 1) := by decide +kernel
theorem dX8_hasRoom_8 : decode cX8_hasRoom 8 = .ok (.getfield 24, 3) := by decide +kernel
theorem dX8_hasRoom_11 : decode cX8_hasRoom 11 = .ok (.iload_n 2, 1) := by decide +kernel
theorem dX8_hasRoom_12 : decode cX8_hasRoom 12 = .ok (.iadd, 1) := by decide +kernel
theorem dX8_hasRoom_13 : decode cX8_hasRoom 13 = .ok (.sipush 1000, 3) := by decide +kernel
theorem dX8_hasRoom_16 : decode cX8_hasRoom 16 = .ok (.if_icmp .le 7, 3) := by decide +kernel
theorem dX8_hasRoom_19 : decode cX8_hasRoom 19 = .ok (.aload_n 1, 1) := by decide +kernel
theorem dX8_hasRoom_20 : decode cX8_hasRoom 20 = .ok (.invokevirtual 87, 3) := by decide +kernel
theorem dX8_hasRoom_23 : decode cX8_hasRoom 23 = .ok (.aload_n 1, 1) := by decide +kernel
theorem dX8_hasRoom_24 : decode cX8_hasRoom 24 = .ok (.invokevirtual 47, 3) := by decide +kernel
theorem dX8_hasRoom_27 : decode cX8_hasRoom 27 = .ok (.ireturn, 1) := by decide +kernel
theorem dX8_addSteps_0 : decode cX8_addSteps 0 = .ok (.iconst 0, 1) := by decide +kernel
theorem dX8_addSteps_1 : decode cX8_addSteps 1 = .ok (.istore 5, 2) := by decide +kernel
theorem dX8_addSteps_3 : decode cX8_addSteps 3 = .ok (.iload 5, 2) := by decide +kernel
theorem dX8_addSteps_5 : decode cX8_addSteps 5 = .ok (.iload 4, 2) := by decide +kernel
theorem dX8_addSteps_7 : decode cX8_addSteps 7 = .ok (.if_icmp .ge 75, 3) := by decide +kernel
theorem dX8_addSteps_10 : decode cX8_addSteps 10 = .ok (.aload_n 0, 1) := by decide +kernel
theorem dX8_addSteps_11 : decode cX8_addSteps 11 = .ok (.getfield 28, 3) := by decide +kernel
theorem dX8_addSteps_14 : decode cX8_addSteps 14 = .ok (.iconst 2, 1) := by decide +kernel
theorem dX8_addSteps_15 : decode cX8_addSteps 15 = .ok (.irem, 1) := by decide +kernel
theorem dX8_addSteps_16 : decode cX8_addSteps 16 = .ok (.ifCond .ne 7, 3) := by decide +kernel
theorem dX8_addSteps_19 : decode cX8_addSteps 19 = .ok (.iload_n 3, 1) := by decide +kernel
theorem dX8_addSteps_20 : decode cX8_addSteps 20 = .ok (.goto 5, 3) := by decide +kernel
theorem dX8_addSteps_23 : decode cX8_addSteps 23 = .ok (.iload_n 3, 1) := by decide +kernel
theorem dX8_addSteps_24 : decode cX8_addSteps 24 = .ok (.ineg, 1) := by decide +kernel
theorem dX8_addSteps_25 : decode cX8_addSteps 25 = .ok (.istore 6, 2) := by decide +kernel
theorem dX8_addSteps_27 : decode cX8_addSteps 27 = .ok (.iconst 0, 1) := by decide +kernel
theorem dX8_addSteps_28 : decode cX8_addSteps 28 = .ok (.istore 7, 2) := by decide +kernel
theorem dX8_addSteps_30 : decode cX8_addSteps 30 = .ok (.iload 7, 2) := by decide +kernel
theorem dX8_addSteps_32 : decode cX8_addSteps 32 = .ok (.iload_n 2, 1) := by decide +kernel
theorem dX8_addSteps_33 : decode cX8_addSteps 33 = .ok (.if_icmp .ge 33, 3) := by decide +kernel
theorem dX8_addSteps_36 : decode cX8_addSteps 36 = .ok (.aload_n 0, 1) := by decide +kernel
theorem dX8_addSteps_37 : decode cX8_addSteps 37 = .ok (.iload 7, 2) := by decide +kernel
theorem dX8_addSteps_39 : decode cX8_addSteps 39 = .ok (.iload_n 2, 1) := by decide +kernel
theorem dX8_addSteps_40 : decode cX8_addSteps 40 = .ok (.iconst 2, 1) := by decide +kernel
theorem dX8_addSteps_41 : decode cX8_addSteps 41 = .ok (.idiv, 1) := by decide +kernel
theorem dX8_addSteps_42 : decode cX8_addSteps 42 = .ok (.if_icmp .ge 7, 3) := by decide +kernel
theorem dX8_addSteps_45 : decode cX8_addSteps 45 = .ok (.iload_n 1, 1) := by decide +kernel
theorem dX8_addSteps_46 : decode cX8_addSteps 46 = .ok (.goto 5, 3) := by decide +kernel
theorem dX8_addSteps_49 : decode cX8_addSteps 49 = .ok (.iload_n 1, 1) := by decide +kernel
theorem dX8_addSteps_50 : decode cX8_addSteps 50 = .ok (.ineg, 1) := by decide +kernel
theorem dX8_addSteps_51 : decode cX8_addSteps 51 = .ok (.iload 6, 2) := by decide +kernel
theorem dX8_addSteps_53 : decode cX8_addSteps 53 = .ok (.aload_n 0, 1) := by decide +kernel
theorem dX8_addSteps_54 : decode cX8_addSteps 54 = .ok (.getfield 28, 3) := by decide +kernel
theorem dX8_addSteps_57 : decode cX8_addSteps 57 = .ok (.invokevirtual 83, 3) := by decide +kernel
theorem dX8_addSteps_60 : decode cX8_addSteps 60 = .ok (.iinc 7 1, 3) := by decide +kernel
theorem dX8_addSteps_63 : decode cX8_addSteps 63 = .ok (.goto (-33), 3) := by decide +kernel
theorem dX8_addSteps_66 : decode cX8_addSteps 66 = .ok (.aload_n 0, 1) := by decide +kernel
theorem dX8_addSteps_67 : decode cX8_addSteps 67 = .ok (.dup, 1) := by decide +kernel
theorem dX8_addSteps_68 : decode cX8_addSteps 68 = .ok (.getfield 28, 3) := by decide +kernel
theorem dX8_addSteps_71 : decode cX8_addSteps 71 = .ok (.iconst 1, 1) := by decide +kernel
theorem dX8_addSteps_72 : decode cX8_addSteps 72 = .ok (.iadd, 1) := by decide +kernel
theorem dX8_addSteps_73 : decode cX8_addSteps 73 = .ok (.putfield 28, 3) := by decide +kernel
theorem dX8_addSteps_76 : decode cX8_addSteps 76 = .ok (.iinc 5 1, 3) := by decide +kernel
theorem dX8_addSteps_79 : decode cX8_addSteps 79 = .ok (.goto (-76), 3) := by decide +kernel
theorem dX8_addSteps_82 : decode cX8_addSteps 82 = .ok (.return_, 1) := by decide +kernel
theorem dX8_addTick_0 : decode cX8_addTick 0 = .ok (.aload_n 0, 1) := by decide +kernel
theorem dX8_addTick_1 : decode cX8_addTick 1 = .ok (.getfield 24, 3) := by decide +kernel
theorem dX8_addTick_4 : decode cX8_addTick 4 = .ok (.sipush 1000, 3) := by decide +kernel
theorem dX8_addTick_7 : decode cX8_addTick 7 = .ok (.if_icmp .lt 4, 3) := by decide +kernel
theorem dX8_addTick_10 : decode cX8_addTick 10 = .ok (.return_, 1) := by decide +kernel
theorem dX8_addTick_11 : decode cX8_addTick 11 = .ok (.aload_n 0, 1) := by decide +kernel
theorem dX8_addTick_12 : decode cX8_addTick 12 = .ok (.getfield 9, 3) := by decide +kernel
theorem dX8_addTick_15 : decode cX8_addTick 15 = .ok (.aload_n 0, 1) := by decide +kernel
theorem dX8_addTick_16 : decode cX8_addTick 16 = .ok (.getfield 24, 3) := by decide +kernel
theorem dX8_addTick_19 : decode cX8_addTick 19 = .ok (.iload_n 1, 1) := by decide +kernel
theorem dX8_addTick_20 : decode cX8_addTick 20 = .ok (.iastore, 1) := by decide +kernel
theorem dX8_addTick_21 : decode cX8_addTick 21 = .ok (.aload_n 0, 1) := by decide +kernel
theorem dX8_addTick_22 : decode cX8_addTick 22 = .ok (.getfield 15, 3) := by decide +kernel
theorem dX8_addTick_25 : decode cX8_addTick 25 = .ok (.aload_n 0, 1) := by decide +kernel
theorem dX8_addTick_26 : decode cX8_addTick 26 = .ok (.getfield 24, 3) := by decide +kernel
theorem dX8_addTick_29 : decode cX8_addTick 29 = .ok (.iload_n 2, 1) := by decide +kernel
theorem dX8_addTick_30 : decode cX8_addTick 30 = .ok (.iastore, 1) := by decide +kernel
theorem dX8_addTick_31 : decode cX8_addTick 31 = .ok (.aload_n 0, 1) := by decide +kernel
theorem dX8_addTick_32 : decode cX8_addTick 32 = .ok (.getfield 18, 3) := by decide +kernel
theorem dX8_addTick_35 : decode cX8_addTick 35 = .ok (.aload_n 0, 1) := by decide +kernel
theorem dX8_addTick_36 : decode cX8_addTick 36 = .ok (.getfield 24, 3) := by decide +kernel
theorem dX8_addTick_39 : decode cX8_addTick 39 = .ok (.aload_n 0, 1) := by decide +kernel
theorem dX8_addTick_40 : decode cX8_addTick 40 = .ok (.getfield 31, 3) := by decide +kernel
theorem dX8_addTick_43 : decode cX8_addTick 43 = .ok (.iastore, 1) := by decide +kernel
theorem dX8_addTick_44 : decode cX8_addTick 44 = .ok (.aload_n 0, 1) := by decide +kernel
theorem dX8_addTick_45 : decode cX8_addTick 45 = .ok (.getfield 21, 3) := by decide +kernel
theorem dX8_addTick_48 : decode cX8_addTick 48 = .ok (.aload_n 0, 1) := by decide +kernel
theorem dX8_addTick_49 : decode cX8_addTick 49 = .ok (.getfield 24, 3) := by decide +kernel
theorem dX8_addTick_52 : decode cX8_addTick 52 = .ok (.iload_n 3, 1) := by decide +kernel
theorem dX8_addTick_53 : decode cX8_addTick 53 = .ok (.iastore, 1) := by decide +kernel
theorem dX8_addTick_54 : decode cX8_addTick 54 = .ok (.aload_n 0, 1) := by decide +kernel
theorem dX8_addTick_55 : decode cX8_addTick 55 = .ok (.dup, 1) := by decide +kernel
theorem dX8_addTick_56 : decode cX8_addTick 56 = .ok (.getfield 24, 3) := by decide +kernel
theorem dX8_addTick_59 : decode cX8_addTick 59 = .ok (.iconst 1, 1) := by decide +kernel
theorem dX8_addTick_60 : decode cX8_addTick 60 = .ok (.iadd, 1) := by decide +kernel
theorem dX8_addTick_61 : decode cX8_addTick 61 = .ok (.putfield 24, 3) := by decide +kernel
theorem dX8_addTick_64 : decode cX8_addTick 64 = .ok (.return_, 1) := by decide +kernel
theorem dX8_stepAt_0 : decode cX8_stepAt 0 = .ok (.iload_n 1, 1) := by decide +kernel
theorem dX8_stepAt_1 : decode cX8_stepAt 1 = .ok (.iconst 0, 1) := by decide +kernel
theorem dX8_stepAt_2 : decode cX8_stepAt 2 = .ok (.aload_n 0, 1) := by decide +kernel
theorem dX8_stepAt_3 : decode cX8_stepAt 3 = .ok (.getfield 24, 3) := by decide +kernel
theorem dX8_stepAt_6 : decode cX8_stepAt 6 = .ok (.iconst 1, 1) := by decide +kernel
theorem dX8_stepAt_7 : decode cX8_stepAt 7 = .ok (.isub, 1) := by decide +kernel
theorem dX8_stepAt_8 : decode cX8_stepAt 8 = .ok (.invokestatic 90, 3) := by decide +kernel
theorem dX8_stepAt_11 : decode cX8_stepAt 11 = .ok (.ifCond .eq 12, 3) := by decide +kernel
theorem dX8_stepAt_14 : decode cX8_stepAt 14 = .ok (.aload_n 0, 1) := by decide +kernel
theorem dX8_stepAt_15 : decode cX8_stepAt 15 = .ok (.getfield 21, 3) := by decide +kernel
theorem dX8_stepAt_18 : decode cX8_stepAt 18 = .ok (.iload_n 1, 1) := by decide +kernel
theorem dX8_stepAt_19 : decode cX8_stepAt 19 = .ok (.iaload, 1) := by decide +kernel
theorem dX8_stepAt_20 : decode cX8_stepAt 20 = .ok (.goto 4, 3) := by decide +kernel
theorem dX8_stepAt_23 : decode cX8_stepAt 23 = .ok (.iconst (-1), 1) := by decide +kernel
theorem dX8_stepAt_24 : decode cX8_stepAt 24 = .ok (.ireturn, 1) := by decide +kernel
theorem dX8_sizes_0 : decode cX8_sizes 0 = .ok (.iconst 0, 1) := by decide +kernel
theorem dX8_sizes_1 : decode cX8_sizes 1 = .ok (.istore_n 2, 1) := by decide +kernel
theorem dX8_sizes_2 : decode cX8_sizes 2 = .ok (.iconst 0, 1) := by decide +kernel
theorem dX8_sizes_3 : decode cX8_sizes 3 = .ok (.istore_n 3, 1) := by decide +kernel
theorem dX8_sizes_4 : decode cX8_sizes 4 = .ok (.iload_n 3, 1) := by decide +kernel
theorem dX8_sizes_5 : decode cX8_sizes 5 = .ok (.aload_n 0, 1) := by decide +kernel
theorem dX8_sizes_6 : decode cX8_sizes 6 = .ok (.getfield 24, 3) := by decide +kernel
theorem dX8_sizes_9 : decode cX8_sizes 9 = .ok (.if_icmp .ge 24, 3) := by decide +kernel
theorem dX8_sizes_12 : decode cX8_sizes 12 = .ok (.iload_n 3, 1) := by decide +kernel
theorem dX8_sizes_13 : decode cX8_sizes 13 = .ok (.aload_n 1, 1) := by decide +kernel
theorem dX8_sizes_14 : decode cX8_sizes 14 = .ok (.arraylength, 1) := by decide +kernel
theorem dX8_sizes_15 : decode cX8_sizes 15 = .ok (.if_icmp .ge 18, 3) := by decide +kernel
theorem dX8_sizes_18 : decode cX8_sizes 18 = .ok (.iload_n 2, 1) := by decide +kernel
theorem dX8_sizes_19 : decode cX8_sizes 19 = .ok (.aload_n 1, 1) := by decide +kernel
theorem dX8_sizes_20 : decode cX8_sizes 20 = .ok (.iload_n 3, 1) := by decide +kernel
theorem dX8_sizes_21 : decode cX8_sizes 21 = .ok (.iaload, 1) := by decide +kernel
theorem dX8_sizes_22 : decode cX8_sizes 22 = .ok (.invokestatic 94, 3) := by decide +kernel
theorem dX8_sizes_25 : decode cX8_sizes 25 = .ok (.iadd, 1) := by decide +kernel
theorem dX8_sizes_26 : decode cX8_sizes 26 = .ok (.istore_n 2, 1) := by decide +kernel
theorem dX8_sizes_27 : decode cX8_sizes 27 = .ok (.iinc 3 1, 3) := by decide +kernel
theorem dX8_sizes_30 : decode cX8_sizes 30 = .ok (.goto (-26), 3) := by decide +kernel
theorem dX8_sizes_33 : decode cX8_sizes 33 = .ok (.iload_n 2, 1) := by decide +kernel
theorem dX8_sizes_34 : decode cX8_sizes 34 = .ok (.ireturn, 1) := by decide +kernel
theorem dX9_init_0 : decode cX9_init 0 = .ok (.aload_n 0, 1) := by decide +kernel
theorem dX9_init_1 : decode cX9_init 1 = .ok (.invokespecial 1, 3) := by decide +kernel
theorem dX9_init_4 : decode cX9_init 4 = .ok (.aload_n 0, 1) := by decide +kernel
theorem dX9_init_5 : decode cX9_init 5 = .ok (.new 7, 3) := by decide +kernel
theorem dX9_init_8 : decode cX9_init 8 = .ok (.dup, 1) := by decide +kernel
theorem dX9_init_9 : decode cX9_init 9 = .ok (.invokespecial 9, 3) := by decide +kernel
theorem dX9_init_12 : decode cX9_init 12 = .ok (.putfield 10, 3) := by decide +kernel
theorem dX9_init_15 : decode cX9_init 15 = .ok (.aload_n 0, 1) := by decide +kernel
theorem dX9_init_16 : decode cX9_init 16 = .ok (.new 16, 3) := by decide +kernel
theorem dX9_init_19 : decode cX9_init 19 = .ok (.dup, 1) := by decide +kernel
theorem dX9_init_20 : decode cX9_init 20 = .ok (.invokespecial 18, 3) := by decide +kernel
theorem dX9_init_23 : decode cX9_init 23 = .ok (.putfield 19, 3) := by decide +kernel
theorem dX9_init_26 : decode cX9_init 26 = .ok (.aload_n 0, 1) := by decide +kernel
theorem dX9_init_27 : decode cX9_init 27 = .ok (.iconst 3, 1) := by decide +kernel
theorem dX9_init_28 : decode cX9_init 28 = .ok (.anewarray 16, 3) := by decide +kernel
theorem dX9_init_31 : decode cX9_init 31 = .ok (.putfield 23, 3) := by decide +kernel
theorem dX9_init_34 : decode cX9_init 34 = .ok (.aload_n 0, 1) := by decide +kernel
theorem dX9_init_35 : decode cX9_init 35 = .ok (.iconst 0, 1) := by decide +kernel
theorem dX9_init_36 : decode cX9_init 36 = .ok (.putfield 27, 3) := by decide +kernel
theorem dX9_init_39 : decode cX9_init 39 = .ok (.aload_n 0, 1) := by decide +kernel
theorem dX9_init_40 : decode cX9_init 40 = .ok (.new 31, 3) := by decide +kernel
theorem dX9_init_43 : decode cX9_init 43 = .ok (.dup, 1) := by decide +kernel
theorem dX9_init_44 : decode cX9_init 44 = .ok (.invokespecial 33, 3) := by decide +kernel
theorem dX9_init_47 : decode cX9_init 47 = .ok (.putfield 34, 3) := by decide +kernel
theorem dX9_init_50 : decode cX9_init 50 = .ok (.aload_n 0, 1) := by decide +kernel
theorem dX9_init_51 : decode cX9_init 51 = .ok (.iconst 4, 1) := by decide +kernel
theorem dX9_init_52 : decode cX9_init 52 = .ok (.anewarray 38, 3) := by decide +kernel
theorem dX9_init_55 : decode cX9_init 55 = .ok (.putfield 40, 3) := by decide +kernel
theorem dX9_init_58 : decode cX9_init 58 = .ok (.aload_n 0, 1) := by decide +kernel
theorem dX9_init_59 : decode cX9_init 59 = .ok (.iconst 4, 1) := by decide +kernel
theorem dX9_init_60 : decode cX9_init 60 = .ok (.newarray .int, 2) := by decide +kernel
theorem dX9_init_62 : decode cX9_init 62 = .ok (.putfield 44, 3) := by decide +kernel
theorem dX9_init_65 : decode cX9_init 65 = .ok (.aload_n 0, 1) := by decide +kernel
theorem dX9_init_66 : decode cX9_init 66 = .ok (.new 38, 3) := by decide +kernel
theorem dX9_init_69 : decode cX9_init 69 = .ok (.dup, 1) := by decide +kernel
theorem dX9_init_70 : decode cX9_init 70 = .ok (.invokespecial 48, 3) := by decide +kernel
theorem dX9_init_73 : decode cX9_init 73 = .ok (.putfield 49, 3) := by decide +kernel
theorem dX9_init_76 : decode cX9_init 76 = .ok (.aload_n 0, 1) := by decide +kernel
theorem dX9_init_77 : decode cX9_init 77 = .ok (.iconst 3, 1) := by decide +kernel
theorem dX9_init_78 : decode cX9_init 78 = .ok (.anewarray 53, 3) := by decide +kernel
theorem dX9_init_81 : decode cX9_init 81 = .ok (.putfield 55, 3) := by decide +kernel
theorem dX9_init_84 : decode cX9_init 84 = .ok (.aload_n 0, 1) := by decide +kernel
theorem dX9_init_85 : decode cX9_init 85 = .ok (.new 53, 3) := by decide +kernel
theorem dX9_init_88 : decode cX9_init 88 = .ok (.dup, 1) := by decide +kernel
theorem dX9_init_89 : decode cX9_init 89 = .ok (.invokespecial 59, 3) := by decide +kernel
theorem dX9_init_92 : decode cX9_init 92 = .ok (.putfield 60, 3) := by decide +kernel
theorem dX9_init_95 : decode cX9_init 95 = .ok (.aload_n 0, 1) := by decide +kernel
theorem dX9_init_96 : decode cX9_init 96 = .ok (.new 64, 3) := by decide +kernel
theorem dX9_init_99 : decode cX9_init 99 = .ok (.dup, 1) := by decide +kernel
theorem dX9_init_100 : decode cX9_init 100 = .ok (.invokespecial 66, 3) := by decide +kernel
theorem dX9_init_103 : decode cX9_init 103 = .ok (.putfield 67, 3) := by decide +kernel
theorem dX9_init_106 : decode cX9_init 106 = .ok (.aload_n 0, 1) := by decide +kernel
theorem dX9_init_107 : decode cX9_init 107 = .ok (.new 71, 3) := by decide +kernel
theorem dX9_init_110 : decode cX9_init 110 = .ok (.dup, 1) := by decide +kernel
theorem dX9_init_111 : decode cX9_init 111 = .ok (.invokespecial 73, 3) := by decide +kernel
theorem dX9_init_114 : decode cX9_init 114 = .ok (.putfield 74, 3) := by decide +kernel
theorem dX9_init_117 : decode cX9_init 117 = .ok (.aload_n 0, 1) := by decide +kernel
theorem dX9_init_118 : decode cX9_init 118 = .ok (.bipush 12, 2) := by decide +kernel
theorem dX9_init_120 : decode cX9_init 120 = .ok (.newarray .int, 2) := by decide +kernel
theorem dX9_init_122 : decode cX9_init 122 = .ok (.putfield 78, 3) := by decide +kernel
theorem dX9_init_125 : decode cX9_init 125 = .ok (.aload_n 0, 1) := by decide +kernel
theorem dX9_init_126 : decode cX9_init 126 = .ok (.iconst 0, 1) := by decide +kernel
theorem dX9_init_127 : decode cX9_init 127 = .ok (.putfield 81, 3) := by decide +kernel
theorem dX9_init_130 : decode cX9_init 130 = .ok (.aload_n 0, 1) := by decide +kernel
theorem dX9_init_131 : decode cX9_init 131 = .ok (.new 84, 3) := by decide +kernel
theorem dX9_init_134 : decode cX9_init 134 = .ok (.dup, 1) := by decide +kernel
theorem dX9_init_135 : decode cX9_init 135 = .ok (.invokespecial 86, 3) := by decide +kernel
theorem dX9_init_138 : decode cX9_init 138 = .ok (.putfield 87, 3) := by decide +kernel
theorem dX9_init_141 : decode cX9_init 141 = .ok (.aload_n 0, 1) := by decide +kernel
theorem dX9_init_142 : decode cX9_init 142 = .ok (.iconst 4, 1) := by decide +kernel
theorem dX9_init_143 : decode cX9_init 143 = .ok (.newarray .long, 2) := by decide +kernel
theorem dX9_init_145 : decode cX9_init 145 = .ok (.putfield 91, 3) := by decide +kernel
theorem dX9_init_148 : decode cX9_init 148 = .ok (.aload_n 0, 1) := by decide +kernel
theorem dX9_init_149 : decode cX9_init 149 = .ok (.iconst 0, 1) := by decide +kernel
theorem dX9_init_150 : decode cX9_init 150 = .ok (.putfield 95, 3) := by decide +kernel
theorem dX9_init_153 : decode cX9_init 153 = .ok (.iconst 0, 1) := by decide +kernel
theorem dX9_init_154 : decode cX9_init 154 = .ok (.istore_n 1, 1) := by decide +kernel
theorem dX9_init_155 : decode cX9_init 155 = .ok (.iload_n 1, 1) := by decide +kernel
theorem dX9_init_156 : decode cX9_init 156 = .ok (.iconst 3, 1) := by decide +kernel
theorem dX9_init_157 : decode cX9_init 157 = .ok (.if_icmp .ge 22, 3) := by decide +kernel
theorem dX9_init_160 : decode cX9_init 160 = .ok (.aload_n 0, 1) := by decide +kernel
theorem dX9_init_161 : decode cX9_init 161 = .ok (.getfield 23, 3) := by decide +kernel
theorem dX9_init_164 : decode cX9_init 164 = .ok (.iload_n 1, 1) := by decide +kernel
theorem dX9_init_165 : decode cX9_init 165 = .ok (.new 16, 3) := by decide +kernel
theorem dX9_init_168 : decode cX9_init 168 = .ok (.dup, 1) := by decide +kernel
theorem dX9_init_169 : decode cX9_init 169 = .ok (.invokespecial 18, 3) := by decide +kernel
theorem dX9_init_172 : decode cX9_init 172 = .ok (.aastore, 1) := by decide +kernel
theorem dX9_init_173 : decode cX9_init 173 = .ok (.iinc 1 1, 3) := by decide +kernel
theorem dX9_init_176 : decode cX9_init 176 = .ok (.goto (-21), 3) := by decide +kernel
theorem dX9_init_179 : decode cX9_init 179 = .ok (.iconst 0, 1) := by decide +kernel
theorem dX9_init_180 : decode cX9_init 180 = .ok (.istore_n 1, 1) := by decide +kernel
theorem dX9_init_181 : decode cX9_init 181 = .ok (.iload_n 1, 1) := by decide +kernel
theorem dX9_init_182 : decode cX9_init 182 = .ok (.iconst 4, 1) := by decide +kernel
theorem dX9_init_183 : decode cX9_init 183 = .ok (.if_icmp .ge 22, 3) := by decide +kernel
theorem dX9_init_186 : decode cX9_init 186 = .ok (.aload_n 0, 1) := by decide +kernel
theorem dX9_init_187 : decode cX9_init 187 = .ok (.getfield 40, 3) := by decide +kernel
theorem dX9_init_190 : decode cX9_init 190 = .ok (.iload_n 1, 1) := by decide +kernel
theorem dX9_init_191 : decode cX9_init 191 = .ok (.new 38, 3) := by decide +kernel
theorem dX9_init_194 : decode cX9_init 194 = .ok (.dup, 1) := by decide +kernel
theorem dX9_init_195 : decode cX9_init 195 = .ok (.invokespecial 48, 3) := by decide +kernel
theorem dX9_init_198 : decode cX9_init 198 = .ok (.aastore, 1) := by decide +kernel
theorem dX9_init_199 : decode cX9_init 199 = .ok (.iinc 1 1, 3) := by decide +kernel
theorem dX9_init_202 : decode cX9_init 202 = .ok (.goto (-21), 3) := by decide +kernel
theorem dX9_init_205 : decode cX9_init 205 = .ok (.iconst 0, 1) := by decide +kernel
theorem dX9_init_206 : decode cX9_init 206 = .ok (.istore_n 1, 1) := by decide +kernel
theorem dX9_init_207 : decode cX9_init 207 = .ok (.iload_n 1, 1) := by decide +kernel
theorem dX9_init_208 : decode cX9_init 208 = .ok (.iconst 3, 1) := by decide +kernel
theorem dX9_init_209 : decode cX9_init 209 = .ok (.if_icmp .ge 22, 3) := by decide +kernel
theorem dX9_init_212 : decode cX9_init 212 = .ok (.aload_n 0, 1) := by decide +kernel
theorem dX9_init_213 : decode cX9_init 213 = .ok (.getfield 55, 3) := by decide +kernel
theorem dX9_init_216 : decode cX9_init 216 = .ok (.iload_n 1, 1) := by decide +kernel
theorem dX9_init_217 : decode cX9_init 217 = .ok (.new 53, 3) := by decide +kernel
theorem dX9_init_220 : decode cX9_init 220 = .ok (.dup, 1) := by decide +kernel
theorem dX9_init_221 : decode cX9_init 221 = .ok (.invokespecial 59, 3) := by decide +kernel
theorem dX9_init_224 : decode cX9_init 224 = .ok (.aastore, 1) := by decide +kernel
theorem dX9_init_225 : decode cX9_init 225 = .ok (.iinc 1 1, 3) := by decide +kernel
theorem dX9_init_228 : decode cX9_init 228 = .ok (.goto (-21), 3) := by decide +kernel
theorem dX9_init_231 : decode cX9_init 231 = .ok (.aload_n 0, 1) := by decide +kernel
theorem dX9_init_232 : decode cX9_init 232 = .ok (.getfield 19, 3) := by decide +kernel
theorem dX9_init_235 : decode cX9_init 235 = .ok (.aload_n 0, 1) := by decide +kernel
theorem dX9_init_236 : decode cX9_init 236 = .ok (.getfield 10, 3) := by decide +kernel
theorem dX9_init_239 : decode cX9_init 239 = .ok (.invokevirtual 98, 3) := by decide +kernel
theorem dX9_init_242 : decode cX9_init 242 = .ok (.return_, 1) := by decide +kernel
theorem dX9_cup_0 : decode cX9_cup 0 = .ok (.iload_n 1, 1) := by decide +kernel
theorem dX9_cup_1 : decode cX9_cup 1 = .ok (.iconst 2, 1) := by decide +kernel
theorem dX9_cup_2 : decode cX9_cup 2 = .ok (.bipush 20, 2) := by decide +kernel
theorem dX9_cup_4 : decode cX9_cup 4 = .ok (.invokestatic 102, 3) := by decide +kernel
theorem dX9_cup_7 : decode cX9_cup 7 = .ok (.ifCond .eq 23, 3) := by decide +kernel
theorem dX9_cup_10 : decode cX9_cup 10 = .ok (.iload_n 2, 1) := by decide +kernel
theorem dX9_cup_11 : decode cX9_cup 11 = .ok (.iconst 1, 1) := by decide +kernel
theorem dX9_cup_12 : decode cX9_cup 12 = .ok (.sipush 999, 3) := by decide +kernel
theorem dX9_cup_15 : decode cX9_cup 15 = .ok (.invokestatic 102, 3) := by decide +kernel
theorem dX9_cup_18 : decode cX9_cup 18 = .ok (.ifCond .eq 12, 3) := by decide +kernel
theorem dX9_cup_21 : decode cX9_cup 21 = .ok (.iload_n 3, 1) := by decide +kernel
theorem dX9_cup_22 : decode cX9_cup 22 = .ok (.iconst 0, 1) := by decide +kernel
theorem dX9_cup_23 : decode cX9_cup 23 = .ok (.iload_n 2, 1) := by decide +kernel
theorem dX9_cup_24 : decode cX9_cup 24 = .ok (.invokestatic 102, 3) := by decide +kernel
theorem dX9_cup_27 : decode cX9_cup 27 = .ok (.ifCond .ne 5, 3) := by decide +kernel
theorem dX9_cup_30 : decode cX9_cup 30 = .ok (.iconst 0, 1) := by decide +kernel
theorem dX9_cup_31 : decode cX9_cup 31 = .ok (.ireturn, 1) := by decide +kernel
theorem dX9_cup_32 : decode cX9_cup 32 = .ok (.aload_n 0, 1) := by decide +kernel
theorem dX9_cup_33 : decode cX9_cup 33 = .ok (.getfield 10, 3) := by decide +kernel
theorem dX9_cup_36 : decode cX9_cup 36 = .ok (.iload_n 1, 1) := by decide +kernel
theorem dX9_cup_37 : decode cX9_cup 37 = .ok (.iconst 1, 1) := by decide +kernel
theorem dX9_cup_38 : decode cX9_cup 38 = .ok (.isub, 1) := by decide +kernel
theorem dX9_cup_39 : decode cX9_cup 39 = .ok (.putfield 106, 3) := by decide +kernel
theorem dX9_cup_42 : decode cX9_cup 42 = .ok (.aload_n 0, 1) := by decide +kernel
theorem dX9_cup_43 : decode cX9_cup 43 = .ok (.getfield 10, 3) := by decide +kernel
theorem dX9_cup_46 : decode cX9_cup 46 = .ok (.iload_n 2, 1) := by decide +kernel
theorem dX9_cup_47 : decode cX9_cup 47 = .ok (.putfield 109, 3) := by decide +kernel
theorem dX9_cup_50 : decode cX9_cup 50 = .ok (.aload_n 0, 1) := by decide +kernel
theorem dX9_cup_51 : decode cX9_cup 51 = .ok (.getfield 10, 3) := by decide +kernel
theorem dX9_cup_54 : decode cX9_cup 54 = .ok (.iload_n 3, 1) := by decide +kernel
theorem dX9_cup_55 : decode cX9_cup 55 = .ok (.putfield 112, 3) := by decide +kernel
theorem dX9_cup_58 : decode cX9_cup 58 = .ok (.aload_n 0, 1) := by decide +kernel
theorem dX9_cup_59 : decode cX9_cup 59 = .ok (.getfield 10, 3) := by decide +kernel
theorem dX9_cup_62 : decode cX9_cup 62 = .ok (.invokevirtual 115, 3) := by decide +kernel
theorem dX9_cup_65 : decode cX9_cup 65 = .ok (.aload_n 0, 1) := by decide +kernel
theorem dX9_cup_66 : decode cX9_cup 66 = .ok (.getfield 19, 3) := by decide +kernel
theorem dX9_cup_69 : decode cX9_cup 69 = .ok (.aload_n 0, 1) := by decide +kernel
theorem dX9_cup_70 : decode cX9_cup 70 = .ok (.getfield 10, 3) := by decide +kernel
theorem dX9_cup_73 : decode cX9_cup 73 = .ok (.invokevirtual 98, 3) := by decide +kernel
theorem dX9_cup_76 : decode cX9_cup 76 = .ok (.aload_n 0, 1) := by decide +kernel
theorem dX9_cup_77 : decode cX9_cup 77 = .ok (.iconst 0, 1) := by decide +kernel
theorem dX9_cup_78 : decode cX9_cup 78 = .ok (.putfield 27, 3) := by decide +kernel
theorem dX9_cup_81 : decode cX9_cup 81 = .ok (.iconst 1, 1) := by decide +kernel
theorem dX9_cup_82 : decode cX9_cup 82 = .ok (.ireturn, 1) := by decide +kernel
theorem dX9_set_0 : decode cX9_set 0 = .ok (.iload_n 1, 1) := by decide +kernel
theorem dX9_set_1 : decode cX9_set 1 = .ok (.iconst 0, 1) := by decide +kernel
theorem dX9_set_2 : decode cX9_set 2 = .ok (.bipush 6, 2) := by decide +kernel
theorem dX9_set_4 : decode cX9_set 4 = .ok (.invokestatic 102, 3) := by decide +kernel
theorem dX9_set_7 : decode cX9_set 7 = .ok (.ifCond .eq 20, 3) := by decide +kernel
theorem dX9_set_10 : decode cX9_set 10 = .ok (.iload_n 2, 1) := by decide +kernel
theorem dX9_set_11 : decode cX9_set 11 = .ok (.getstatic 118, 3) := by decide +kernel
theorem dX9_set_14 : decode cX9_set 14 = .ok (.iload_n 1, 1) := by decide +kernel
theorem dX9_set_15 : decode cX9_set 15 = .ok (.iaload, 1) := by decide +kernel
theorem dX9_set_16 : decode cX9_set 16 = .ok (.getstatic 121, 3) := by decide +kernel
theorem dX9_set_19 : decode cX9_set 19 = .ok (.iload_n 1, 1) := by decide +kernel
theorem dX9_set_20 : decode cX9_set 20 = .ok (.iaload, 1) := by decide +kernel
theorem dX9_set_21 : decode cX9_set 21 = .ok (.invokestatic 102, 3) := by decide +kernel
theorem dX9_set_24 : decode cX9_set 24 = .ok (.ifCond .ne 5, 3) := by decide +kernel
theorem dX9_set_27 : decode cX9_set 27 = .ok (.iconst (-1), 1) := by decide +kernel
theorem dX9_set_28 : decode cX9_set 28 = .ok (.ireturn, 1) := by decide +kernel
theorem dX9_set_29 : decode cX9_set 29 = .ok (.aload_n 0, 1) := by decide +kernel
theorem dX9_set_30 : decode cX9_set 30 = .ok (.getfield 10, 3) := by decide +kernel
theorem dX9_set_33 : decode cX9_set 33 = .ok (.getfield 124, 3) := by decide +kernel
theorem dX9_set_36 : decode cX9_set 36 = .ok (.iload_n 1, 1) := by decide +kernel
theorem dX9_set_37 : decode cX9_set 37 = .ok (.iaload, 1) := by decide +kernel
theorem dX9_set_38 : decode cX9_set 38 = .ok (.istore_n 3, 1) := by decide +kernel
theorem dX9_set_39 : decode cX9_set 39 = .ok (.aload_n 0, 1) := by decide +kernel
theorem dX9_set_40 : decode cX9_set 40 = .ok (.getfield 10, 3) := by decide +kernel
theorem dX9_set_43 : decode cX9_set 43 = .ok (.getfield 124, 3) := by decide +kernel
theorem dX9_set_46 : decode cX9_set 46 = .ok (.iload_n 1, 1) := by decide +kernel
theorem dX9_set_47 : decode cX9_set 47 = .ok (.iload_n 2, 1) := by decide +kernel
theorem dX9_set_48 : decode cX9_set 48 = .ok (.iastore, 1) := by decide +kernel
theorem dX9_set_49 : decode cX9_set 49 = .ok (.iload_n 3, 1) := by decide +kernel
theorem dX9_set_50 : decode cX9_set 50 = .ok (.ireturn, 1) := by decide +kernel
theorem dX9_wall_0 : decode cX9_wall 0 = .ok (.aload_n 0, 1) := by decide +kernel
theorem dX9_wall_1 : decode cX9_wall 1 = .ok (.iload_n 1, 1) := by decide +kernel
theorem dX9_wall_2 : decode cX9_wall 2 = .ok (.invokevirtual 127, 3) := by decide +kernel
theorem dX9_wall_5 : decode cX9_wall 5 = .ok (.ifCond .eq 13, 3) := by decide +kernel
theorem dX9_wall_8 : decode cX9_wall 8 = .ok (.iload_n 2, 1) := by decide +kernel
theorem dX9_wall_9 : decode cX9_wall 9 = .ok (.iconst 0, 1) := by decide +kernel
theorem dX9_wall_10 : decode cX9_wall 10 = .ok (.bipush 100, 2) := by decide +kernel
theorem dX9_wall_12 : decode cX9_wall 12 = .ok (.invokestatic 102, 3) := by decide +kernel
theorem dX9_wall_15 : decode cX9_wall 15 = .ok (.ifCond .ne 5, 3) := by decide +kernel
theorem dX9_wall_18 : decode cX9_wall 18 = .ok (.iconst (-1), 1) := by decide +kernel
theorem dX9_wall_19 : decode cX9_wall 19 = .ok (.ireturn, 1) := by decide +kernel
theorem dX9_wall_20 : decode cX9_wall 20 = .ok (.aload_n 0, 1) := by decide +kernel
theorem dX9_wall_21 : decode cX9_wall 21 = .ok (.getfield 10, 3) := by decide +kernel
theorem dX9_wall_24 : decode cX9_wall 24 = .ok (.getfield 131, 3) := by decide +kernel
theorem dX9_wall_27 : decode cX9_wall 27 = .ok (.iload_n 1, 1) := by decide +kernel
theorem dX9_wall_28 : decode cX9_wall 28 = .ok (.iaload, 1) := by decide +kernel
theorem dX9_wall_29 : decode cX9_wall 29 = .ok (.istore_n 3, 1) := by decide +kernel
theorem dX9_wall_30 : decode cX9_wall 30 = .ok (.aload_n 0, 1) := by decide +kernel
theorem dX9_wall_31 : decode cX9_wall 31 = .ok (.getfield 10, 3) := by decide +kernel
theorem dX9_wall_34 : decode cX9_wall 34 = .ok (.getfield 131, 3) := by decide +kernel
theorem dX9_wall_37 : decode cX9_wall 37 = .ok (.iload_n 1, 1) := by decide +kernel
theorem dX9_wall_38 : decode cX9_wall 38 = .ok (.iload_n 2, 1) := by decide +kernel
theorem dX9_wall_39 : decode cX9_wall 39 = .ok (.iastore, 1) := by decide +kernel
theorem dX9_wall_40 : decode cX9_wall 40 = .ok (.iload_n 3, 1) := by decide +kernel
theorem dX9_wall_41 : decode cX9_wall 41 = .ok (.ireturn, 1) := by decide +kernel
theorem dX9_sheet_0 : decode cX9_sheet 0 = .ok (.iload_n 1, 1) := by decide +kernel
theorem dX9_sheet_1 : decode cX9_sheet 1 = .ok (.iconst 0, 1) := by decide +kernel
theorem dX9_sheet_2 : decode cX9_sheet 2 = .ok (.iconst 3, 1) := by decide +kernel
theorem dX9_sheet_3 : decode cX9_sheet 3 = .ok (.invokestatic 102, 3) := by decide +kernel
theorem dX9_sheet_6 : decode cX9_sheet 6 = .ok (.ifCond .eq 14, 3) := by decide +kernel
theorem dX9_sheet_9 : decode cX9_sheet 9 = .ok (.iload_n 2, 1) := by decide +kernel
theorem dX9_sheet_10 : decode cX9_sheet 10 = .ok (.aload_n 0, 1) := by decide +kernel
theorem dX9_sheet_11 : decode cX9_sheet 11 = .ok (.getfield 10, 3) := by decide +kernel
theorem dX9_sheet_14 : decode cX9_sheet 14 = .ok (.getfield 106, 3) := by decide +kernel
theorem dX9_sheet_17 : decode cX9_sheet 17 = .ok (.if_icmp .le 5, 3) := by decide +kernel
theorem dX9_sheet_20 : decode cX9_sheet 20 = .ok (.iconst (-1), 1) := by decide +kernel
theorem dX9_sheet_21 : decode cX9_sheet 21 = .ok (.ireturn, 1) := by decide +kernel
theorem dX9_sheet_22 : decode cX9_sheet 22 = .ok (.iload_n 1, 1) := by decide +kernel
theorem dX9_sheet_23 : decode cX9_sheet 23 = .ok (.iconst 3, 1) := by decide +kernel
theorem dX9_sheet_24 : decode cX9_sheet 24 = .ok (.if_icmp .ne 13, 3) := by decide +kernel
theorem dX9_sheet_27 : decode cX9_sheet 27 = .ok (.aload_n 0, 1) := by decide +kernel
theorem dX9_sheet_28 : decode cX9_sheet 28 = .ok (.getfield 10, 3) := by decide +kernel
theorem dX9_sheet_31 : decode cX9_sheet 31 = .ok (.invokevirtual 115, 3) := by decide +kernel
theorem dX9_sheet_34 : decode cX9_sheet 34 = .ok (.bipush (-3), 2) := by decide +kernel
theorem dX9_sheet_36 : decode cX9_sheet 36 = .ok (.ireturn, 1) := by decide +kernel
theorem dX9_sheet_37 : decode cX9_sheet 37 = .ok (.iload_n 2, 1) := by decide +kernel
theorem dX9_sheet_38 : decode cX9_sheet 38 = .ok (.ifCond .ge 6, 3) := by decide +kernel
theorem dX9_sheet_41 : decode cX9_sheet 41 = .ok (.bipush (-2), 2) := by decide +kernel
theorem dX9_sheet_43 : decode cX9_sheet 43 = .ok (.ireturn, 1) := by decide +kernel
theorem dX9_sheet_44 : decode cX9_sheet 44 = .ok (.iconst 0, 1) := by decide +kernel
theorem dX9_sheet_45 : decode cX9_sheet 45 = .ok (.istore 5, 2) := by decide +kernel
theorem dX9_sheet_47 : decode cX9_sheet 47 = .ok (.iconst 0, 1) := by decide +kernel
theorem dX9_sheet_48 : decode cX9_sheet 48 = .ok (.istore 6, 2) := by decide +kernel
theorem dX9_sheet_50 : decode cX9_sheet 50 = .ok (.iload 6, 2) := by decide +kernel
theorem dX9_sheet_52 : decode cX9_sheet 52 = .ok (.aload_n 0, 1) := by decide +kernel
theorem dX9_sheet_53 : decode cX9_sheet 53 = .ok (.getfield 10, 3) := by decide +kernel
theorem dX9_sheet_56 : decode cX9_sheet 56 = .ok (.getfield 106, 3) := by decide +kernel
theorem dX9_sheet_59 : decode cX9_sheet 59 = .ok (.if_icmp .ge 62, 3) := by decide +kernel
theorem dX9_sheet_62 : decode cX9_sheet 62 = .ok (.aload_n 0, 1) := by decide +kernel
theorem dX9_sheet_63 : decode cX9_sheet 63 = .ok (.getfield 10, 3) := by decide +kernel
theorem dX9_sheet_66 : decode cX9_sheet 66 = .ok (.getfield 131, 3) := by decide +kernel
theorem dX9_sheet_69 : decode cX9_sheet 69 = .ok (.iload 6, 2) := by decide +kernel
theorem dX9_sheet_71 : decode cX9_sheet 71 = .ok (.iload 6, 2) := by decide +kernel
theorem dX9_sheet_73 : decode cX9_sheet 73 = .ok (.iload_n 2, 1) := by decide +kernel
theorem dX9_sheet_74 : decode cX9_sheet 74 = .ok (.if_icmp .ge 23, 3) := by decide +kernel
theorem dX9_sheet_77 : decode cX9_sheet 77 = .ok (.iload_n 1, 1) := by decide +kernel
theorem dX9_sheet_78 : decode cX9_sheet 78 = .ok (.iload_n 3, 1) := by decide +kernel
theorem dX9_sheet_79 : decode cX9_sheet 79 = .ok (.iload 6, 2) := by decide +kernel
theorem dX9_sheet_81 : decode cX9_sheet 81 = .ok (.iload 4, 2) := by decide +kernel
theorem dX9_sheet_83 : decode cX9_sheet 83 = .ok (.imul, 1) := by decide +kernel
theorem dX9_sheet_84 : decode cX9_sheet 84 = .ok (.iadd, 1) := by decide +kernel
theorem dX9_sheet_85 : decode cX9_sheet 85 = .ok (.invokestatic 134, 3) := by decide +kernel
theorem dX9_sheet_88 : decode cX9_sheet 88 = .ok (.iconst 0, 1) := by decide +kernel
theorem dX9_sheet_89 : decode cX9_sheet 89 = .ok (.bipush 100, 2) := by decide +kernel
theorem dX9_sheet_91 : decode cX9_sheet 91 = .ok (.invokestatic 138, 3) := by decide +kernel
theorem dX9_sheet_94 : decode cX9_sheet 94 = .ok (.goto 5, 3) := by decide +kernel
theorem dX9_sheet_97 : decode cX9_sheet 97 = .ok (.bipush 100, 2) := by decide +kernel
theorem dX9_sheet_99 : decode cX9_sheet 99 = .ok (.iastore, 1) := by decide +kernel
theorem dX9_sheet_100 : decode cX9_sheet 100 = .ok (.iload 5, 2) := by decide +kernel
theorem dX9_sheet_102 : decode cX9_sheet 102 = .ok (.aload_n 0, 1) := by decide +kernel
theorem dX9_sheet_103 : decode cX9_sheet 103 = .ok (.getfield 10, 3) := by decide +kernel
theorem dX9_sheet_106 : decode cX9_sheet 106 = .ok (.getfield 131, 3) := by decide +kernel
theorem dX9_sheet_109 : decode cX9_sheet 109 = .ok (.iload 6, 2) := by decide +kernel
theorem dX9_sheet_111 : decode cX9_sheet 111 = .ok (.iaload, 1) := by decide +kernel
theorem dX9_sheet_112 : decode cX9_sheet 112 = .ok (.iadd, 1) := by decide +kernel
theorem dX9_sheet_113 : decode cX9_sheet 113 = .ok (.istore 5, 2) := by decide +kernel
theorem dX9_sheet_115 : decode cX9_sheet 115 = .ok (.iinc 6 1, 3) := by decide +kernel
theorem dX9_sheet_118 : decode cX9_sheet 118 = .ok (.goto (-68), 3) := by decide +kernel
theorem dX9_sheet_121 : decode cX9_sheet 121 = .ok (.iload 5, 2) := by decide +kernel
theorem dX9_sheet_123 : decode cX9_sheet 123 = .ok (.ireturn, 1) := by decide +kernel
theorem dX9_fresh_0 : decode cX9_fresh 0 = .ok (.aload_n 0, 1) := by decide +kernel
theorem dX9_fresh_1 : decode cX9_fresh 1 = .ok (.getfield 19, 3) := by decide +kernel
theorem dX9_fresh_4 : decode cX9_fresh 4 = .ok (.getfield 142, 3) := by decide +kernel
theorem dX9_fresh_7 : decode cX9_fresh 7 = .ok (.istore_n 1, 1) := by decide +kernel
theorem dX9_fresh_8 : decode cX9_fresh 8 = .ok (.aload_n 0, 1) := by decide +kernel
theorem dX9_fresh_9 : decode cX9_fresh 9 = .ok (.getfield 19, 3) := by decide +kernel
theorem dX9_fresh_12 : decode cX9_fresh 12 = .ok (.aload_n 0, 1) := by decide +kernel
theorem dX9_fresh_13 : decode cX9_fresh 13 = .ok (.getfield 10, 3) := by decide +kernel
theorem dX9_fresh_16 : decode cX9_fresh 16 = .ok (.invokevirtual 98, 3) := by decide +kernel
theorem dX9_fresh_19 : decode cX9_fresh 19 = .ok (.iload_n 1, 1) := by decide +kernel
theorem dX9_fresh_20 : decode cX9_fresh 20 = .ok (.ireturn, 1) := by decide +kernel
theorem dX9_tilt_0 : decode cX9_tilt 0 = .ok (.iload_n 1, 1) := by decide +kernel
theorem dX9_tilt_1 : decode cX9_tilt 1 = .ok (.invokestatic 145, 3) := by decide +kernel
theorem dX9_tilt_4 : decode cX9_tilt 4 = .ok (.ifCond .eq 16, 3) := by decide +kernel
theorem dX9_tilt_7 : decode cX9_tilt 7 = .ok (.iload_n 2, 1) := by decide +kernel
theorem dX9_tilt_8 : decode cX9_tilt 8 = .ok (.sipush (-500), 3) := by decide +kernel
theorem dX9_tilt_11 : decode cX9_tilt 11 = .ok (.sipush 500, 3) := by decide +kernel
theorem dX9_tilt_14 : decode cX9_tilt 14 = .ok (.invokestatic 102, 3) := by decide +kernel
theorem dX9_tilt_17 : decode cX9_tilt 17 = .ok (.ifCond .ne 5, 3) := by decide +kernel
theorem dX9_tilt_20 : decode cX9_tilt 20 = .ok (.iconst 0, 1) := by decide +kernel
theorem dX9_tilt_21 : decode cX9_tilt 21 = .ok (.ireturn, 1) := by decide +kernel
theorem dX9_tilt_22 : decode cX9_tilt 22 = .ok (.aload_n 0, 1) := by decide +kernel
theorem dX9_tilt_23 : decode cX9_tilt 23 = .ok (.getfield 19, 3) := by decide +kernel
theorem dX9_tilt_26 : decode cX9_tilt 26 = .ok (.iload_n 1, 1) := by decide +kernel
theorem dX9_tilt_27 : decode cX9_tilt 27 = .ok (.invokevirtual 148, 3) := by decide +kernel
theorem dX9_tilt_30 : decode cX9_tilt 30 = .ok (.aload_n 0, 1) := by decide +kernel
theorem dX9_tilt_31 : decode cX9_tilt 31 = .ok (.getfield 10, 3) := by decide +kernel
theorem dX9_tilt_34 : decode cX9_tilt 34 = .ok (.iload_n 2, 1) := by decide +kernel
theorem dX9_tilt_35 : decode cX9_tilt 35 = .ok (.invokevirtual 152, 3) := by decide +kernel
theorem dX9_tilt_38 : decode cX9_tilt 38 = .ok (.iconst 1, 1) := by decide +kernel
theorem dX9_tilt_39 : decode cX9_tilt 39 = .ok (.ireturn, 1) := by decide +kernel
theorem dX9_tick_0 : decode cX9_tick 0 = .ok (.iload_n 1, 1) := by decide +kernel
theorem dX9_tick_1 : decode cX9_tick 1 = .ok (.invokestatic 158, 3) := by decide +kernel
theorem dX9_tick_4 : decode cX9_tick 4 = .ok (.ifCond .eq 10, 3) := by decide +kernel
theorem dX9_tick_7 : decode cX9_tick 7 = .ok (.iload_n 2, 1) := by decide +kernel
theorem dX9_tick_8 : decode cX9_tick 8 = .ok (.invokestatic 158, 3) := by decide +kernel
theorem dX9_tick_11 : decode cX9_tick 11 = .ok (.ifCond .ne 5, 3) := by decide +kernel
theorem dX9_tick_14 : decode cX9_tick 14 = .ok (.iconst (-1), 1) := by decide +kernel
theorem dX9_tick_15 : decode cX9_tick 15 = .ok (.ireturn, 1) := by decide +kernel
theorem dX9_tick_16 : decode cX9_tick 16 = .ok (.aload_n 0, 1) := by decide +kernel
theorem dX9_tick_17 : decode cX9_tick 17 = .ok (.getfield 19, 3) := by decide +kernel
theorem dX9_tick_20 : decode cX9_tick 20 = .ok (.aload_n 0, 1) := by decide +kernel
theorem dX9_tick_21 : decode cX9_tick 21 = .ok (.getfield 10, 3) := by decide +kernel
theorem dX9_tick_24 : decode cX9_tick 24 = .ok (.iload_n 1, 1) := by decide +kernel
theorem dX9_tick_25 : decode cX9_tick 25 = .ok (.iload_n 2, 1) := by decide +kernel
theorem dX9_tick_26 : decode cX9_tick 26 = .ok (.invokevirtual 161, 3) := by decide +kernel
theorem dX9_tick_29 : decode cX9_tick 29 = .ok (.ireturn, 1) := by decide +kernel
theorem dX9_cell_0 : decode cX9_cell 0 = .ok (.iload_n 1, 1) := by decide +kernel
theorem dX9_cell_1 : decode cX9_cell 1 = .ok (.invokestatic 145, 3) := by decide +kernel
theorem dX9_cell_4 : decode cX9_cell 4 = .ok (.ifCond .eq 27, 3) := by decide +kernel
theorem dX9_cell_7 : decode cX9_cell 7 = .ok (.iload_n 2, 1) := by decide +kernel
theorem dX9_cell_8 : decode cX9_cell 8 = .ok (.iconst 0, 1) := by decide +kernel
theorem dX9_cell_9 : decode cX9_cell 9 = .ok (.aload_n 0, 1) := by decide +kernel
theorem dX9_cell_10 : decode cX9_cell 10 = .ok (.getfield 10, 3) := by decide +kernel
theorem dX9_cell_13 : decode cX9_cell 13 = .ok (.getfield 106, 3) := by decide +kernel
theorem dX9_cell_16 : decode cX9_cell 16 = .ok (.invokestatic 102, 3) := by decide +kernel
theorem dX9_cell_19 : decode cX9_cell 19 = .ok (.ifCond .eq 12, 3) := by decide +kernel
theorem dX9_cell_22 : decode cX9_cell 22 = .ok (.iload_n 3, 1) := by decide +kernel
theorem dX9_cell_23 : decode cX9_cell 23 = .ok (.iconst 0, 1) := by decide +kernel
theorem dX9_cell_24 : decode cX9_cell 24 = .ok (.iconst 1, 1) := by decide +kernel
theorem dX9_cell_25 : decode cX9_cell 25 = .ok (.invokestatic 102, 3) := by decide +kernel
theorem dX9_cell_28 : decode cX9_cell 28 = .ok (.ifCond .ne 11, 3) := by decide +kernel
theorem dX9_cell_31 : decode cX9_cell 31 = .ok (.new 165, 3) := by decide +kernel
theorem dX9_cell_34 : decode cX9_cell 34 = .ok (.dup, 1) := by decide +kernel
theorem dX9_cell_35 : decode cX9_cell 35 = .ok (.invokespecial 167, 3) := by decide +kernel
theorem dX9_cell_38 : decode cX9_cell 38 = .ok (.athrow, 1) := by decide +kernel
theorem dX9_cell_39 : decode cX9_cell 39 = .ok (.aload_n 0, 1) := by decide +kernel
theorem dX9_cell_40 : decode cX9_cell 40 = .ok (.getfield 19, 3) := by decide +kernel
theorem dX9_cell_43 : decode cX9_cell 43 = .ok (.iload_n 1, 1) := by decide +kernel
theorem dX9_cell_44 : decode cX9_cell 44 = .ok (.invokevirtual 148, 3) := by decide +kernel
theorem dX9_cell_47 : decode cX9_cell 47 = .ok (.astore 4, 2) := by decide +kernel
theorem dX9_cell_49 : decode cX9_cell 49 = .ok (.iload_n 3, 1) := by decide +kernel
theorem dX9_cell_50 : decode cX9_cell 50 = .ok (.ifCond .ne 11, 3) := by decide +kernel
theorem dX9_cell_53 : decode cX9_cell 53 = .ok (.aload 4, 2) := by decide +kernel
theorem dX9_cell_55 : decode cX9_cell 55 = .ok (.getfield 168, 3) := by decide +kernel
theorem dX9_cell_58 : decode cX9_cell 58 = .ok (.iload_n 2, 1) := by decide +kernel
theorem dX9_cell_59 : decode cX9_cell 59 = .ok (.iaload, 1) := by decide +kernel
theorem dX9_cell_60 : decode cX9_cell 60 = .ok (.ireturn, 1) := by decide +kernel
theorem dX9_cell_61 : decode cX9_cell 61 = .ok (.iload_n 2, 1) := by decide +kernel
theorem dX9_cell_62 : decode cX9_cell 62 = .ok (.aload_n 0, 1) := by decide +kernel
theorem dX9_cell_63 : decode cX9_cell 63 = .ok (.getfield 10, 3) := by decide +kernel
theorem dX9_cell_66 : decode cX9_cell 66 = .ok (.getfield 106, 3) := by decide +kernel
theorem dX9_cell_69 : decode cX9_cell 69 = .ok (.if_icmp .ge 13, 3) := by decide +kernel
theorem dX9_cell_72 : decode cX9_cell 72 = .ok (.aload 4, 2) := by decide +kernel
theorem dX9_cell_74 : decode cX9_cell 74 = .ok (.getfield 171, 3) := by decide +kernel
theorem dX9_cell_77 : decode cX9_cell 77 = .ok (.iload_n 2, 1) := by decide +kernel
theorem dX9_cell_78 : decode cX9_cell 78 = .ok (.iaload, 1) := by decide +kernel
theorem dX9_cell_79 : decode cX9_cell 79 = .ok (.goto 4, 3) := by decide +kernel
theorem dX9_cell_82 : decode cX9_cell 82 = .ok (.iconst 0, 1) := by decide +kernel
theorem dX9_cell_83 : decode cX9_cell 83 = .ok (.ireturn, 1) := by decide +kernel
theorem dX9_of_0 : decode cX9_of 0 = .ok (.iload_n 1, 1) := by decide +kernel
theorem dX9_of_1 : decode cX9_of 1 = .ok (.invokestatic 145, 3) := by decide +kernel
theorem dX9_of_4 : decode cX9_of 4 = .ok (.ifCond .eq 12, 3) := by decide +kernel
theorem dX9_of_7 : decode cX9_of 7 = .ok (.iload_n 2, 1) := by decide +kernel
theorem dX9_of_8 : decode cX9_of 8 = .ok (.iconst 0, 1) := by decide +kernel
theorem dX9_of_9 : decode cX9_of 9 = .ok (.iconst 3, 1) := by decide +kernel
theorem dX9_of_10 : decode cX9_of 10 = .ok (.invokestatic 102, 3) := by decide +kernel
theorem dX9_of_13 : decode cX9_of 13 = .ok (.ifCond .ne 11, 3) := by decide +kernel
theorem dX9_of_16 : decode cX9_of 16 = .ok (.new 165, 3) := by decide +kernel
theorem dX9_of_19 : decode cX9_of 19 = .ok (.dup, 1) := by decide +kernel
theorem dX9_of_20 : decode cX9_of 20 = .ok (.invokespecial 167, 3) := by decide +kernel
theorem dX9_of_23 : decode cX9_of 23 = .ok (.athrow, 1) := by decide +kernel
theorem dX9_of_24 : decode cX9_of 24 = .ok (.aload_n 0, 1) := by decide +kernel
theorem dX9_of_25 : decode cX9_of 25 = .ok (.getfield 19, 3) := by decide +kernel
theorem dX9_of_28 : decode cX9_of 28 = .ok (.iload_n 1, 1) := by decide +kernel
theorem dX9_of_29 : decode cX9_of 29 = .ok (.invokevirtual 148, 3) := by decide +kernel
theorem dX9_of_32 : decode cX9_of 32 = .ok (.astore_n 3, 1) := by decide +kernel
theorem dX9_of_33 : decode cX9_of 33 = .ok (.iload_n 2, 1) := by decide +kernel
theorem dX9_of_34 : decode cX9_of 34 = .ok (.tableswitch 49 0 2 #[26, 35, 40], 26) := by decide +kernel
theorem dX9_of_60 : decode cX9_of 60 = .ok (.aload_n 3, 1) := by decide +kernel
theorem dX9_of_61 : decode cX9_of 61 = .ok (.aload_n 0, 1) := by decide +kernel
theorem dX9_of_62 : decode cX9_of 62 = .ok (.getfield 10, 3) := by decide +kernel
theorem dX9_of_65 : decode cX9_of 65 = .ok (.invokevirtual 174, 3) := by decide +kernel
theorem dX9_of_68 : decode cX9_of 68 = .ok (.ireturn, 1) := by decide +kernel
theorem dX9_of_69 : decode cX9_of 69 = .ok (.aload_n 3, 1) := by decide +kernel
theorem dX9_of_70 : decode cX9_of 70 = .ok (.getfield 178, 3) := by decide +kernel
theorem dX9_of_73 : decode cX9_of 73 = .ok (.ireturn, 1) := by decide +kernel
theorem dX9_of_74 : decode cX9_of 74 = .ok (.aload_n 3, 1) := by decide +kernel
theorem dX9_of_75 : decode cX9_of 75 = .ok (.aload_n 0, 1) := by decide +kernel
theorem dX9_of_76 : decode cX9_of 76 = .ok (.getfield 10, 3) := by decide +kernel
theorem dX9_of_79 : decode cX9_of 79 = .ok (.invokevirtual 181, 3) := by decide +kernel
theorem dX9_of_82 : decode cX9_of 82 = .ok (.ireturn, 1) := by decide +kernel
theorem dX9_of_83 : decode cX9_of 83 = .ok (.aload_n 3, 1) := by decide +kernel
theorem dX9_of_84 : decode cX9_of 84 = .ok (.aload_n 0, 1) := by decide +kernel
theorem dX9_of_85 : decode cX9_of 85 = .ok (.getfield 10, 3) := by decide +kernel
theorem dX9_of_88 : decode cX9_of 88 = .ok (.invokevirtual 184, 3) := by decide +kernel
theorem dX9_of_91 : decode cX9_of 91 = .ok (.ireturn, 1) := by decide +kernel
theorem dX9_sheetEntry_0 : decode cX9_sheetEntry 0 = .ok (.iload_n 0, 1) := by decide +kernel
theorem dX9_sheetEntry_1 : decode cX9_sheetEntry 1 = .ok (.ifCond .ne 6, 3) := by decide +kernel
theorem dX9_sheetEntry_4 : decode cX9_sheetEntry 4 = .ok (.iload_n 1, 1) := by decide +kernel
theorem dX9_sheetEntry_5 : decode cX9_sheetEntry 5 = .ok (.i2b, 1) := by decide +kernel
theorem dX9_sheetEntry_6 : decode cX9_sheetEntry 6 = .ok (.ireturn, 1) := by decide +kernel
theorem dX9_sheetEntry_7 : decode cX9_sheetEntry 7 = .ok (.iload_n 0, 1) := by decide +kernel
theorem dX9_sheetEntry_8 : decode cX9_sheetEntry 8 = .ok (.iconst 1, 1) := by decide +kernel
theorem dX9_sheetEntry_9 : decode cX9_sheetEntry 9 = .ok (.if_icmp .ne 8, 3) := by decide +kernel
theorem dX9_sheetEntry_12 : decode cX9_sheetEntry 12 = .ok (.iload_n 1, 1) := by decide +kernel
theorem dX9_sheetEntry_13 : decode cX9_sheetEntry 13 = .ok (.i2s, 1) := by decide +kernel
theorem dX9_sheetEntry_14 : decode cX9_sheetEntry 14 = .ok (.goto 4, 3) := by decide +kernel
theorem dX9_sheetEntry_17 : decode cX9_sheetEntry 17 = .ok (.iload_n 1, 1) := by decide +kernel
theorem dX9_sheetEntry_18 : decode cX9_sheetEntry 18 = .ok (.ireturn, 1) := by decide +kernel
theorem dX9_sign_0 : decode cX9_sign 0 = .ok (.aload_n 0, 1) := by decide +kernel
theorem dX9_sign_1 : decode cX9_sign 1 = .ok (.getfield 34, 3) := by decide +kernel
theorem dX9_sign_4 : decode cX9_sign 4 = .ok (.iload_n 1, 1) := by decide +kernel
theorem dX9_sign_5 : decode cX9_sign 5 = .ok (.invokevirtual 187, 3) := by decide +kernel
theorem dX9_sign_8 : decode cX9_sign 8 = .ok (.ifCond .eq 13, 3) := by decide +kernel
theorem dX9_sign_11 : decode cX9_sign 11 = .ok (.aload_n 0, 1) := by decide +kernel
theorem dX9_sign_12 : decode cX9_sign 12 = .ok (.getfield 34, 3) := by decide +kernel
theorem dX9_sign_15 : decode cX9_sign 15 = .ok (.getfield 190, 3) := by decide +kernel
theorem dX9_sign_18 : decode cX9_sign 18 = .ok (.goto 4, 3) := by decide +kernel
theorem dX9_sign_21 : decode cX9_sign 21 = .ok (.iconst (-1), 1) := by decide +kernel
theorem dX9_sign_22 : decode cX9_sign 22 = .ok (.ireturn, 1) := by decide +kernel
theorem dX9_end_0 : decode cX9_end 0 = .ok (.iload_n 1, 1) := by decide +kernel
theorem dX9_end_1 : decode cX9_end 1 = .ok (.iconst 0, 1) := by decide +kernel
theorem dX9_end_2 : decode cX9_end 2 = .ok (.aload_n 0, 1) := by decide +kernel
theorem dX9_end_3 : decode cX9_end 3 = .ok (.getfield 34, 3) := by decide +kernel
theorem dX9_end_6 : decode cX9_end 6 = .ok (.getfield 190, 3) := by decide +kernel
theorem dX9_end_9 : decode cX9_end 9 = .ok (.invokestatic 102, 3) := by decide +kernel
theorem dX9_end_12 : decode cX9_end 12 = .ok (.ifCond .ne 5, 3) := by decide +kernel
theorem dX9_end_15 : decode cX9_end 15 = .ok (.iconst 0, 1) := by decide +kernel
theorem dX9_end_16 : decode cX9_end 16 = .ok (.ireturn, 1) := by decide +kernel
theorem dX9_end_17 : decode cX9_end 17 = .ok (.aload_n 0, 1) := by decide +kernel
theorem dX9_end_18 : decode cX9_end 18 = .ok (.getfield 34, 3) := by decide +kernel
theorem dX9_end_21 : decode cX9_end 21 = .ok (.iload_n 1, 1) := by decide +kernel
theorem dX9_end_22 : decode cX9_end 22 = .ok (.putfield 190, 3) := by decide +kernel
theorem dX9_end_25 : decode cX9_end 25 = .ok (.iconst 1, 1) := by decide +kernel
theorem dX9_end_26 : decode cX9_end 26 = .ok (.ireturn, 1) := by decide +kernel
theorem dX9_walk_0 : decode cX9_walk 0 = .ok (.iload_n 1, 1) := by decide +kernel
theorem dX9_walk_1 : decode cX9_walk 1 = .ok (.invokestatic 193, 3) := by decide +kernel
theorem dX9_walk_4 : decode cX9_walk 4 = .ok (.ifCond .ne 14, 3) := by decide +kernel
theorem dX9_walk_7 : decode cX9_walk 7 = .ok (.aload_n 0, 1) := by decide +kernel
theorem dX9_walk_8 : decode cX9_walk 8 = .ok (.getfield 34, 3) := by decide +kernel
theorem dX9_walk_11 : decode cX9_walk 11 = .ok (.iconst 0, 1) := by decide +kernel
theorem dX9_walk_12 : decode cX9_walk 12 = .ok (.putfield 190, 3) := by decide +kernel
theorem dX9_walk_15 : decode cX9_walk 15 = .ok (.bipush (-100), 2) := by decide +kernel
theorem dX9_walk_17 : decode cX9_walk 17 = .ok (.ireturn, 1) := by decide +kernel
theorem dX9_walk_18 : decode cX9_walk 18 = .ok (.aload_n 0, 1) := by decide +kernel
theorem dX9_walk_19 : decode cX9_walk 19 = .ok (.getfield 49, 3) := by decide +kernel
theorem dX9_walk_22 : decode cX9_walk 22 = .ok (.aload_n 0, 1) := by decide +kernel
theorem dX9_walk_23 : decode cX9_walk 23 = .ok (.getfield 34, 3) := by decide +kernel
theorem dX9_walk_26 : decode cX9_walk 26 = .ok (.invokevirtual 196, 3) := by decide +kernel
theorem dX9_walk_29 : decode cX9_walk 29 = .ok (.aload_n 0, 1) := by decide +kernel
theorem dX9_walk_30 : decode cX9_walk 30 = .ok (.getfield 34, 3) := by decide +kernel
theorem dX9_walk_33 : decode cX9_walk 33 = .ok (.invokevirtual 200, 3) := by decide +kernel
theorem dX9_walk_36 : decode cX9_walk 36 = .ok (.istore_n 2, 1) := by decide +kernel
theorem dX9_walk_37 : decode cX9_walk 37 = .ok (.iload_n 2, 1) := by decide +kernel
theorem dX9_walk_38 : decode cX9_walk 38 = .ok (.iconst (-1), 1) := by decide +kernel
theorem dX9_walk_39 : decode cX9_walk 39 = .ok (.if_icmp .eq 7, 3) := by decide +kernel
theorem dX9_walk_42 : decode cX9_walk 42 = .ok (.iconst (-1), 1) := by decide +kernel
theorem dX9_walk_43 : decode cX9_walk 43 = .ok (.iload_n 2, 1) := by decide +kernel
theorem dX9_walk_44 : decode cX9_walk 44 = .ok (.isub, 1) := by decide +kernel
theorem dX9_walk_45 : decode cX9_walk 45 = .ok (.ireturn, 1) := by decide +kernel
theorem dX9_walk_46 : decode cX9_walk 46 = .ok (.aload_n 0, 1) := by decide +kernel
theorem dX9_walk_47 : decode cX9_walk 47 = .ok (.getfield 40, 3) := by decide +kernel
theorem dX9_walk_50 : decode cX9_walk 50 = .ok (.iload_n 1, 1) := by decide +kernel
theorem dX9_walk_51 : decode cX9_walk 51 = .ok (.aaload, 1) := by decide +kernel
theorem dX9_walk_52 : decode cX9_walk 52 = .ok (.astore_n 3, 1) := by decide +kernel
theorem dX9_walk_53 : decode cX9_walk 53 = .ok (.aload_n 0, 1) := by decide +kernel
theorem dX9_walk_54 : decode cX9_walk 54 = .ok (.getfield 40, 3) := by decide +kernel
theorem dX9_walk_57 : decode cX9_walk 57 = .ok (.iload_n 1, 1) := by decide +kernel
theorem dX9_walk_58 : decode cX9_walk 58 = .ok (.aload_n 0, 1) := by decide +kernel
theorem dX9_walk_59 : decode cX9_walk 59 = .ok (.getfield 49, 3) := by decide +kernel
theorem dX9_walk_62 : decode cX9_walk 62 = .ok (.aastore, 1) := by decide +kernel
theorem dX9_walk_63 : decode cX9_walk 63 = .ok (.aload_n 0, 1) := by decide +kernel
theorem dX9_walk_64 : decode cX9_walk 64 = .ok (.aload_n 3, 1) := by decide +kernel
theorem dX9_walk_65 : decode cX9_walk 65 = .ok (.putfield 49, 3) := by decide +kernel
theorem dX9_walk_68 : decode cX9_walk 68 = .ok (.aload_n 0, 1) := by decide +kernel
theorem dX9_walk_69 : decode cX9_walk 69 = .ok (.getfield 40, 3) := by decide +kernel
theorem dX9_walk_72 : decode cX9_walk 72 = .ok (.iload_n 1, 1) := by decide +kernel
theorem dX9_walk_73 : decode cX9_walk 73 = .ok (.aaload, 1) := by decide +kernel
theorem dX9_walk_74 : decode cX9_walk 74 = .ok (.getfield 204, 3) := by decide +kernel
theorem dX9_walk_77 : decode cX9_walk 77 = .ok (.ireturn, 1) := by decide +kernel
theorem dX9_law_0 : decode cX9_law 0 = .ok (.iload_n 1, 1) := by decide +kernel
theorem dX9_law_1 : decode cX9_law 1 = .ok (.iconst 0, 1) := by decide +kernel
theorem dX9_law_2 : decode cX9_law 2 = .ok (.iconst 2, 1) := by decide +kernel
theorem dX9_law_3 : decode cX9_law 3 = .ok (.invokestatic 102, 3) := by decide +kernel
theorem dX9_law_6 : decode cX9_law 6 = .ok (.ifCond .ne 14, 3) := by decide +kernel
theorem dX9_law_9 : decode cX9_law 9 = .ok (.aload_n 0, 1) := by decide +kernel
theorem dX9_law_10 : decode cX9_law 10 = .ok (.getfield 34, 3) := by decide +kernel
theorem dX9_law_13 : decode cX9_law 13 = .ok (.iconst 0, 1) := by decide +kernel
theorem dX9_law_14 : decode cX9_law 14 = .ok (.putfield 190, 3) := by decide +kernel
theorem dX9_law_17 : decode cX9_law 17 = .ok (.bipush (-100), 2) := by decide +kernel
theorem dX9_law_19 : decode cX9_law 19 = .ok (.ireturn, 1) := by decide +kernel
theorem dX9_law_20 : decode cX9_law 20 = .ok (.aload_n 0, 1) := by decide +kernel
theorem dX9_law_21 : decode cX9_law 21 = .ok (.getfield 60, 3) := by decide +kernel
theorem dX9_law_24 : decode cX9_law 24 = .ok (.aload_n 0, 1) := by decide +kernel
theorem dX9_law_25 : decode cX9_law 25 = .ok (.getfield 34, 3) := by decide +kernel
theorem dX9_law_28 : decode cX9_law 28 = .ok (.invokevirtual 207, 3) := by decide +kernel
theorem dX9_law_31 : decode cX9_law 31 = .ok (.aload_n 0, 1) := by decide +kernel
theorem dX9_law_32 : decode cX9_law 32 = .ok (.getfield 34, 3) := by decide +kernel
theorem dX9_law_35 : decode cX9_law 35 = .ok (.invokevirtual 200, 3) := by decide +kernel
theorem dX9_law_38 : decode cX9_law 38 = .ok (.istore_n 2, 1) := by decide +kernel
theorem dX9_law_39 : decode cX9_law 39 = .ok (.iload_n 2, 1) := by decide +kernel
theorem dX9_law_40 : decode cX9_law 40 = .ok (.iconst (-1), 1) := by decide +kernel
theorem dX9_law_41 : decode cX9_law 41 = .ok (.if_icmp .eq 7, 3) := by decide +kernel
theorem dX9_law_44 : decode cX9_law 44 = .ok (.iconst (-1), 1) := by decide +kernel
theorem dX9_law_45 : decode cX9_law 45 = .ok (.iload_n 2, 1) := by decide +kernel
theorem dX9_law_46 : decode cX9_law 46 = .ok (.isub, 1) := by decide +kernel
theorem dX9_law_47 : decode cX9_law 47 = .ok (.ireturn, 1) := by decide +kernel
theorem dX9_law_48 : decode cX9_law 48 = .ok (.aload_n 0, 1) := by decide +kernel
theorem dX9_law_49 : decode cX9_law 49 = .ok (.getfield 55, 3) := by decide +kernel
theorem dX9_law_52 : decode cX9_law 52 = .ok (.iload_n 1, 1) := by decide +kernel
theorem dX9_law_53 : decode cX9_law 53 = .ok (.aaload, 1) := by decide +kernel
theorem dX9_law_54 : decode cX9_law 54 = .ok (.astore_n 3, 1) := by decide +kernel
theorem dX9_law_55 : decode cX9_law 55 = .ok (.aload_n 0, 1) := by decide +kernel
theorem dX9_law_56 : decode cX9_law 56 = .ok (.getfield 55, 3) := by decide +kernel
theorem dX9_law_59 : decode cX9_law 59 = .ok (.iload_n 1, 1) := by decide +kernel
theorem dX9_law_60 : decode cX9_law 60 = .ok (.aload_n 0, 1) := by decide +kernel
theorem dX9_law_61 : decode cX9_law 61 = .ok (.getfield 60, 3) := by decide +kernel
theorem dX9_law_64 : decode cX9_law 64 = .ok (.aastore, 1) := by decide +kernel
theorem dX9_law_65 : decode cX9_law 65 = .ok (.aload_n 0, 1) := by decide +kernel
theorem dX9_law_66 : decode cX9_law 66 = .ok (.aload_n 3, 1) := by decide +kernel
theorem dX9_law_67 : decode cX9_law 67 = .ok (.putfield 60, 3) := by decide +kernel
theorem dX9_law_70 : decode cX9_law 70 = .ok (.iconst 0, 1) := by decide +kernel
theorem dX9_law_71 : decode cX9_law 71 = .ok (.ireturn, 1) := by decide +kernel
theorem dX9_gives_0 : decode cX9_gives 0 = .ok (.aload_n 0, 1) := by decide +kernel
theorem dX9_gives_1 : decode cX9_gives 1 = .ok (.iload_n 1, 1) := by decide +kernel
theorem dX9_gives_2 : decode cX9_gives 2 = .ok (.invokevirtual 208, 3) := by decide +kernel
theorem dX9_gives_5 : decode cX9_gives 5 = .ok (.astore_n 3, 1) := by decide +kernel
theorem dX9_gives_6 : decode cX9_gives 6 = .ok (.aload_n 3, 1) := by decide +kernel
theorem dX9_gives_7 : decode cX9_gives 7 = .ok (.ifnull 10, 3) := by decide +kernel
theorem dX9_gives_10 : decode cX9_gives 10 = .ok (.iload_n 2, 1) := by decide +kernel
theorem dX9_gives_11 : decode cX9_gives 11 = .ok (.invokestatic 158, 3) := by decide +kernel
theorem dX9_gives_14 : decode cX9_gives 14 = .ok (.ifCond .ne 11, 3) := by decide +kernel
theorem dX9_gives_17 : decode cX9_gives 17 = .ok (.new 165, 3) := by decide +kernel
theorem dX9_gives_20 : decode cX9_gives 20 = .ok (.dup, 1) := by decide +kernel
theorem dX9_gives_21 : decode cX9_gives 21 = .ok (.invokespecial 167, 3) := by decide +kernel
theorem dX9_gives_24 : decode cX9_gives 24 = .ok (.athrow, 1) := by decide +kernel
theorem dX9_gives_25 : decode cX9_gives 25 = .ok (.aload_n 0, 1) := by decide +kernel
theorem dX9_gives_26 : decode cX9_gives 26 = .ok (.getfield 19, 3) := by decide +kernel
theorem dX9_gives_29 : decode cX9_gives 29 = .ok (.aload_n 0, 1) := by decide +kernel
theorem dX9_gives_30 : decode cX9_gives 30 = .ok (.getfield 10, 3) := by decide +kernel
theorem dX9_gives_33 : decode cX9_gives 33 = .ok (.aload_n 3, 1) := by decide +kernel
theorem dX9_gives_34 : decode cX9_gives 34 = .ok (.iload_n 2, 1) := by decide +kernel
theorem dX9_gives_35 : decode cX9_gives 35 = .ok (.invokevirtual 212, 3) := by decide +kernel
theorem dX9_gives_38 : decode cX9_gives 38 = .ok (.ireturn, 1) := by decide +kernel
theorem dX9_steps_0 : decode cX9_steps 0 = .ok (.iload_n 1, 1) := by decide +kernel
theorem dX9_steps_1 : decode cX9_steps 1 = .ok (.invokestatic 193, 3) := by decide +kernel
theorem dX9_steps_4 : decode cX9_steps 4 = .ok (.ifCond .ne 5, 3) := by decide +kernel
theorem dX9_steps_7 : decode cX9_steps 7 = .ok (.iconst (-1), 1) := by decide +kernel
theorem dX9_steps_8 : decode cX9_steps 8 = .ok (.ireturn, 1) := by decide +kernel
theorem dX9_steps_9 : decode cX9_steps 9 = .ok (.aload_n 0, 1) := by decide +kernel
theorem dX9_steps_10 : decode cX9_steps 10 = .ok (.getfield 40, 3) := by decide +kernel
theorem dX9_steps_13 : decode cX9_steps 13 = .ok (.iload_n 1, 1) := by decide +kernel
theorem dX9_steps_14 : decode cX9_steps 14 = .ok (.aaload, 1) := by decide +kernel
theorem dX9_steps_15 : decode cX9_steps 15 = .ok (.astore_n 2, 1) := by decide +kernel
theorem dX9_steps_16 : decode cX9_steps 16 = .ok (.aload_n 0, 1) := by decide +kernel
theorem dX9_steps_17 : decode cX9_steps 17 = .ok (.aload_n 2, 1) := by decide +kernel
theorem dX9_steps_18 : decode cX9_steps 18 = .ok (.getfield 204, 3) := by decide +kernel
theorem dX9_steps_21 : decode cX9_steps 21 = .ok (.i2l, 1) := by decide +kernel
theorem dX9_steps_22 : decode cX9_steps 22 = .ok (.aload_n 2, 1) := by decide +kernel
theorem dX9_steps_23 : decode cX9_steps 23 = .ok (.aload_n 2, 1) := by decide +kernel
theorem dX9_steps_24 : decode cX9_steps 24 = .ok (.getfield 216, 3) := by decide +kernel
theorem dX9_steps_27 : decode cX9_steps 27 = .ok (.invokevirtual 219, 3) := by decide +kernel
theorem dX9_steps_30 : decode cX9_steps 30 = .ok (.i2l, 1) := by decide +kernel
theorem dX9_steps_31 : decode cX9_steps 31 = .ok (.aload_n 2, 1) := by decide +kernel
theorem dX9_steps_32 : decode cX9_steps 32 = .ok (.aload_n 2, 1) := by decide +kernel
theorem dX9_steps_33 : decode cX9_steps 33 = .ok (.getfield 223, 3) := by decide +kernel
theorem dX9_steps_36 : decode cX9_steps 36 = .ok (.invokevirtual 219, 3) := by decide +kernel
theorem dX9_steps_39 : decode cX9_steps 39 = .ok (.i2l, 1) := by decide +kernel
theorem dX9_steps_40 : decode cX9_steps 40 = .ok (.invokevirtual 226, 3) := by decide +kernel
theorem dX9_steps_43 : decode cX9_steps 43 = .ok (.aload_n 2, 1) := by decide +kernel
theorem dX9_steps_44 : decode cX9_steps 44 = .ok (.getfield 230, 3) := by decide +kernel
theorem dX9_steps_47 : decode cX9_steps 47 = .ok (.ireturn, 1) := by decide +kernel
theorem dX9_go_0 : decode cX9_go 0 = .ok (.iload_n 1, 1) := by decide +kernel
theorem dX9_go_1 : decode cX9_go 1 = .ok (.invokestatic 193, 3) := by decide +kernel
theorem dX9_go_4 : decode cX9_go 4 = .ok (.ifCond .eq 25, 3) := by decide +kernel
theorem dX9_go_7 : decode cX9_go 7 = .ok (.iload_n 2, 1) := by decide +kernel
theorem dX9_go_8 : decode cX9_go 8 = .ok (.iconst 0, 1) := by decide +kernel
theorem dX9_go_9 : decode cX9_go 9 = .ok (.sipush 1000, 3) := by decide +kernel
theorem dX9_go_12 : decode cX9_go 12 = .ok (.invokestatic 102, 3) := by decide +kernel
theorem dX9_go_15 : decode cX9_go 15 = .ok (.ifCond .eq 14, 3) := by decide +kernel
theorem dX9_go_18 : decode cX9_go 18 = .ok (.iload_n 3, 1) := by decide +kernel
theorem dX9_go_19 : decode cX9_go 19 = .ok (.iconst 0, 1) := by decide +kernel
theorem dX9_go_20 : decode cX9_go 20 = .ok (.sipush 1000, 3) := by decide +kernel
theorem dX9_go_23 : decode cX9_go 23 = .ok (.invokestatic 102, 3) := by decide +kernel
theorem dX9_go_26 : decode cX9_go 26 = .ok (.ifCond .ne 5, 3) := by decide +kernel
theorem dX9_go_29 : decode cX9_go 29 = .ok (.iconst (-1), 1) := by decide +kernel
theorem dX9_go_30 : decode cX9_go 30 = .ok (.ireturn, 1) := by decide +kernel
theorem dX9_go_31 : decode cX9_go 31 = .ok (.aload_n 0, 1) := by decide +kernel
theorem dX9_go_32 : decode cX9_go 32 = .ok (.getfield 40, 3) := by decide +kernel
theorem dX9_go_35 : decode cX9_go 35 = .ok (.iload_n 1, 1) := by decide +kernel
theorem dX9_go_36 : decode cX9_go 36 = .ok (.aaload, 1) := by decide +kernel
theorem dX9_go_37 : decode cX9_go 37 = .ok (.astore 4, 2) := by decide +kernel
theorem dX9_go_39 : decode cX9_go 39 = .ok (.aload_n 0, 1) := by decide +kernel
theorem dX9_go_40 : decode cX9_go 40 = .ok (.aload_n 0, 1) := by decide +kernel
theorem dX9_go_41 : decode cX9_go 41 = .ok (.getfield 10, 3) := by decide +kernel
theorem dX9_go_44 : decode cX9_go 44 = .ok (.getfield 124, 3) := by decide +kernel
theorem dX9_go_47 : decode cX9_go 47 = .ok (.bipush 6, 2) := by decide +kernel
theorem dX9_go_49 : decode cX9_go 49 = .ok (.iaload, 1) := by decide +kernel
theorem dX9_go_50 : decode cX9_go 50 = .ok (.invokevirtual 208, 3) := by decide +kernel
theorem dX9_go_53 : decode cX9_go 53 = .ok (.astore 5, 2) := by decide +kernel
theorem dX9_go_55 : decode cX9_go 55 = .ok (.iload_n 2, 1) := by decide +kernel
theorem dX9_go_56 : decode cX9_go 56 = .ok (.iload_n 3, 1) := by decide +kernel
theorem dX9_go_57 : decode cX9_go 57 = .ok (.iadd, 1) := by decide +kernel
theorem dX9_go_58 : decode cX9_go 58 = .ok (.aload 4, 2) := by decide +kernel
theorem dX9_go_60 : decode cX9_go 60 = .ok (.getfield 204, 3) := by decide +kernel
theorem dX9_go_63 : decode cX9_go 63 = .ok (.invokestatic 233, 3) := by decide +kernel
theorem dX9_go_66 : decode cX9_go 66 = .ok (.istore 6, 2) := by decide +kernel
theorem dX9_go_68 : decode cX9_go 68 = .ok (.iconst 0, 1) := by decide +kernel
theorem dX9_go_69 : decode cX9_go 69 = .ok (.istore 7, 2) := by decide +kernel
theorem dX9_go_71 : decode cX9_go 71 = .ok (.iload_n 2, 1) := by decide +kernel
theorem dX9_go_72 : decode cX9_go 72 = .ok (.istore 8, 2) := by decide +kernel
theorem dX9_go_74 : decode cX9_go 74 = .ok (.iload 8, 2) := by decide +kernel
theorem dX9_go_76 : decode cX9_go 76 = .ok (.iload 6, 2) := by decide +kernel
theorem dX9_go_78 : decode cX9_go 78 = .ok (.if_icmp .ge 32, 3) := by decide +kernel
theorem dX9_go_81 : decode cX9_go 81 = .ok (.iload 7, 2) := by decide +kernel
theorem dX9_go_83 : decode cX9_go 83 = .ok (.aload_n 0, 1) := by decide +kernel
theorem dX9_go_84 : decode cX9_go 84 = .ok (.getfield 19, 3) := by decide +kernel
theorem dX9_go_87 : decode cX9_go 87 = .ok (.aload_n 0, 1) := by decide +kernel
theorem dX9_go_88 : decode cX9_go 88 = .ok (.getfield 10, 3) := by decide +kernel
theorem dX9_go_91 : decode cX9_go 91 = .ok (.aload 5, 2) := by decide +kernel
theorem dX9_go_93 : decode cX9_go 93 = .ok (.aload 4, 2) := by decide +kernel
theorem dX9_go_95 : decode cX9_go 95 = .ok (.iload 8, 2) := by decide +kernel
theorem dX9_go_97 : decode cX9_go 97 = .ok (.iconst 0, 1) := by decide +kernel
theorem dX9_go_98 : decode cX9_go 98 = .ok (.invokevirtual 238, 3) := by decide +kernel
theorem dX9_go_101 : decode cX9_go 101 = .ok (.iadd, 1) := by decide +kernel
theorem dX9_go_102 : decode cX9_go 102 = .ok (.istore 7, 2) := by decide +kernel
theorem dX9_go_104 : decode cX9_go 104 = .ok (.iinc 8 1, 3) := by decide +kernel
theorem dX9_go_107 : decode cX9_go 107 = .ok (.goto (-33), 3) := by decide +kernel
theorem dX9_go_110 : decode cX9_go 110 = .ok (.iload 7, 2) := by decide +kernel
theorem dX9_go_112 : decode cX9_go 112 = .ok (.ireturn, 1) := by decide +kernel
theorem dX9_swing_0 : decode cX9_swing 0 = .ok (.iload_n 1, 1) := by decide +kernel
theorem dX9_swing_1 : decode cX9_swing 1 = .ok (.iconst 1, 1) := by decide +kernel
theorem dX9_swing_2 : decode cX9_swing 2 = .ok (.sipush 500, 3) := by decide +kernel
theorem dX9_swing_5 : decode cX9_swing 5 = .ok (.invokestatic 102, 3) := by decide +kernel
theorem dX9_swing_8 : decode cX9_swing 8 = .ok (.ifCond .ne 5, 3) := by decide +kernel
theorem dX9_swing_11 : decode cX9_swing 11 = .ok (.iconst (-1), 1) := by decide +kernel
theorem dX9_swing_12 : decode cX9_swing 12 = .ok (.ireturn, 1) := by decide +kernel
theorem dX9_swing_13 : decode cX9_swing 13 = .ok (.aload_n 0, 1) := by decide +kernel
theorem dX9_swing_14 : decode cX9_swing 14 = .ok (.invokevirtual 242, 3) := by decide +kernel
theorem dX9_swing_17 : decode cX9_swing 17 = .ok (.iload_n 1, 1) := by decide +kernel
theorem dX9_swing_18 : decode cX9_swing 18 = .ok (.sipush 400, 3) := by decide +kernel
theorem dX9_swing_21 : decode cX9_swing 21 = .ok (.invokevirtual 246, 3) := by decide +kernel
theorem dX9_swing_24 : decode cX9_swing 24 = .ok (.astore_n 2, 1) := by decide +kernel
theorem dX9_swing_25 : decode cX9_swing 25 = .ok (.iconst 2, 1) := by decide +kernel
theorem dX9_swing_26 : decode cX9_swing 26 = .ok (.istore_n 3, 1) := by decide +kernel
theorem dX9_swing_27 : decode cX9_swing 27 = .ok (.iload_n 3, 1) := by decide +kernel
theorem dX9_swing_28 : decode cX9_swing 28 = .ok (.sipush 400, 3) := by decide +kernel
theorem dX9_swing_31 : decode cX9_swing 31 = .ok (.if_icmp .ge 45, 3) := by decide +kernel
theorem dX9_swing_34 : decode cX9_swing 34 = .ok (.aload_n 2, 1) := by decide +kernel
theorem dX9_swing_35 : decode cX9_swing 35 = .ok (.iload_n 3, 1) := by decide +kernel
theorem dX9_swing_36 : decode cX9_swing 36 = .ok (.iaload, 1) := by decide +kernel
theorem dX9_swing_37 : decode cX9_swing 37 = .ok (.aload_n 2, 1) := by decide +kernel
theorem dX9_swing_38 : decode cX9_swing 38 = .ok (.iload_n 3, 1) := by decide +kernel
theorem dX9_swing_39 : decode cX9_swing 39 = .ok (.iconst 1, 1) := by decide +kernel
theorem dX9_swing_40 : decode cX9_swing 40 = .ok (.isub, 1) := by decide +kernel
theorem dX9_swing_41 : decode cX9_swing 41 = .ok (.iaload, 1) := by decide +kernel
theorem dX9_swing_42 : decode cX9_swing 42 = .ok (.if_icmp .le 28, 3) := by decide +kernel
theorem dX9_swing_45 : decode cX9_swing 45 = .ok (.aload_n 2, 1) := by decide +kernel
theorem dX9_swing_46 : decode cX9_swing 46 = .ok (.iload_n 3, 1) := by decide +kernel
theorem dX9_swing_47 : decode cX9_swing 47 = .ok (.iaload, 1) := by decide +kernel
theorem dX9_swing_48 : decode cX9_swing 48 = .ok (.aload_n 2, 1) := by decide +kernel
theorem dX9_swing_49 : decode cX9_swing 49 = .ok (.iload_n 3, 1) := by decide +kernel
theorem dX9_swing_50 : decode cX9_swing 50 = .ok (.iconst 1, 1) := by decide +kernel
theorem dX9_swing_51 : decode cX9_swing 51 = .ok (.iadd, 1) := by decide +kernel
theorem dX9_swing_52 : decode cX9_swing 52 = .ok (.iaload, 1) := by decide +kernel
theorem dX9_swing_53 : decode cX9_swing 53 = .ok (.if_icmp .lt 17, 3) := by decide +kernel
theorem dX9_swing_56 : decode cX9_swing 56 = .ok (.aload_n 0, 1) := by decide +kernel
theorem dX9_swing_57 : decode cX9_swing 57 = .ok (.aload_n 2, 1) := by decide +kernel
theorem dX9_swing_58 : decode cX9_swing 58 = .ok (.iconst 0, 1) := by decide +kernel
theorem dX9_swing_59 : decode cX9_swing 59 = .ok (.iaload, 1) := by decide +kernel
theorem dX9_swing_60 : decode cX9_swing 60 = .ok (.i2l, 1) := by decide +kernel
theorem dX9_swing_61 : decode cX9_swing 61 = .ok (.aload_n 2, 1) := by decide +kernel
theorem dX9_swing_62 : decode cX9_swing 62 = .ok (.iload_n 3, 1) := by decide +kernel
theorem dX9_swing_63 : decode cX9_swing 63 = .ok (.iaload, 1) := by decide +kernel
theorem dX9_swing_64 : decode cX9_swing 64 = .ok (.i2l, 1) := by decide +kernel
theorem dX9_swing_65 : decode cX9_swing 65 = .ok (.invokevirtual 250, 3) := by decide +kernel
theorem dX9_swing_68 : decode cX9_swing 68 = .ok (.iload_n 3, 1) := by decide +kernel
theorem dX9_swing_69 : decode cX9_swing 69 = .ok (.ireturn, 1) := by decide +kernel
theorem dX9_swing_70 : decode cX9_swing 70 = .ok (.iinc 3 1, 3) := by decide +kernel
theorem dX9_swing_73 : decode cX9_swing 73 = .ok (.goto (-46), 3) := by decide +kernel
theorem dX9_swing_76 : decode cX9_swing 76 = .ok (.bipush (-2), 2) := by decide +kernel
theorem dX9_swing_78 : decode cX9_swing 78 = .ok (.ireturn, 1) := by decide +kernel
theorem dX9_dies_0 : decode cX9_dies 0 = .ok (.iload_n 1, 1) := by decide +kernel
theorem dX9_dies_1 : decode cX9_dies 1 = .ok (.iconst 1, 1) := by decide +kernel
theorem dX9_dies_2 : decode cX9_dies 2 = .ok (.sipush 500, 3) := by decide +kernel
theorem dX9_dies_5 : decode cX9_dies 5 = .ok (.invokestatic 102, 3) := by decide +kernel
theorem dX9_dies_8 : decode cX9_dies 8 = .ok (.ifCond .eq 13, 3) := by decide +kernel
theorem dX9_dies_11 : decode cX9_dies 11 = .ok (.iload_n 2, 1) := by decide +kernel
theorem dX9_dies_12 : decode cX9_dies 12 = .ok (.iconst 1, 1) := by decide +kernel
theorem dX9_dies_13 : decode cX9_dies 13 = .ok (.bipush 100, 2) := by decide +kernel
theorem dX9_dies_15 : decode cX9_dies 15 = .ok (.invokestatic 102, 3) := by decide +kernel
theorem dX9_dies_18 : decode cX9_dies 18 = .ok (.ifCond .ne 5, 3) := by decide +kernel
theorem dX9_dies_21 : decode cX9_dies 21 = .ok (.iconst (-1), 1) := by decide +kernel
theorem dX9_dies_22 : decode cX9_dies 22 = .ok (.ireturn, 1) := by decide +kernel
theorem dX9_dies_23 : decode cX9_dies 23 = .ok (.aload_n 0, 1) := by decide +kernel
theorem dX9_dies_24 : decode cX9_dies 24 = .ok (.invokevirtual 242, 3) := by decide +kernel
theorem dX9_dies_27 : decode cX9_dies 27 = .ok (.iload_n 1, 1) := by decide +kernel
theorem dX9_dies_28 : decode cX9_dies 28 = .ok (.sipush 400, 3) := by decide +kernel
theorem dX9_dies_31 : decode cX9_dies 31 = .ok (.invokevirtual 246, 3) := by decide +kernel
theorem dX9_dies_34 : decode cX9_dies 34 = .ok (.astore_n 3, 1) := by decide +kernel
theorem dX9_dies_35 : decode cX9_dies 35 = .ok (.aload_n 3, 1) := by decide +kernel
theorem dX9_dies_36 : decode cX9_dies 36 = .ok (.iconst 0, 1) := by decide +kernel
theorem dX9_dies_37 : decode cX9_dies 37 = .ok (.iaload, 1) := by decide +kernel
theorem dX9_dies_38 : decode cX9_dies 38 = .ok (.invokestatic 253, 3) := by decide +kernel
theorem dX9_dies_41 : decode cX9_dies 41 = .ok (.iload_n 2, 1) := by decide +kernel
theorem dX9_dies_42 : decode cX9_dies 42 = .ok (.imul, 1) := by decide +kernel
theorem dX9_dies_43 : decode cX9_dies 43 = .ok (.bipush 100, 2) := by decide +kernel
theorem dX9_dies_45 : decode cX9_dies 45 = .ok (.idiv, 1) := by decide +kernel
theorem dX9_dies_46 : decode cX9_dies 46 = .ok (.istore 4, 2) := by decide +kernel
theorem dX9_dies_48 : decode cX9_dies 48 = .ok (.sipush 401, 3) := by decide +kernel
theorem dX9_dies_51 : decode cX9_dies 51 = .ok (.istore 5, 2) := by decide +kernel
theorem dX9_dies_53 : decode cX9_dies 53 = .ok (.iload 5, 2) := by decide +kernel
theorem dX9_dies_55 : decode cX9_dies 55 = .ok (.ifCond .le 23, 3) := by decide +kernel
theorem dX9_dies_58 : decode cX9_dies 58 = .ok (.aload_n 3, 1) := by decide +kernel
theorem dX9_dies_59 : decode cX9_dies 59 = .ok (.iload 5, 2) := by decide +kernel
theorem dX9_dies_61 : decode cX9_dies 61 = .ok (.iconst 1, 1) := by decide +kernel
theorem dX9_dies_62 : decode cX9_dies 62 = .ok (.isub, 1) := by decide +kernel
theorem dX9_dies_63 : decode cX9_dies 63 = .ok (.iaload, 1) := by decide +kernel
theorem dX9_dies_64 : decode cX9_dies 64 = .ok (.invokestatic 253, 3) := by decide +kernel
theorem dX9_dies_67 : decode cX9_dies 67 = .ok (.iload 4, 2) := by decide +kernel
theorem dX9_dies_69 : decode cX9_dies 69 = .ok (.if_icmp .gt 9, 3) := by decide +kernel
theorem dX9_dies_72 : decode cX9_dies 72 = .ok (.iinc 5 (-1), 3) := by decide +kernel
theorem dX9_dies_75 : decode cX9_dies 75 = .ok (.goto (-22), 3) := by decide +kernel
theorem dX9_dies_78 : decode cX9_dies 78 = .ok (.iload 5, 2) := by decide +kernel
theorem dX9_dies_80 : decode cX9_dies 80 = .ok (.sipush 400, 3) := by decide +kernel
theorem dX9_dies_83 : decode cX9_dies 83 = .ok (.if_icmp .gt 8, 3) := by decide +kernel
theorem dX9_dies_86 : decode cX9_dies 86 = .ok (.iload 5, 2) := by decide +kernel
theorem dX9_dies_88 : decode cX9_dies 88 = .ok (.goto 5, 3) := by decide +kernel
theorem dX9_dies_91 : decode cX9_dies 91 = .ok (.bipush (-2), 2) := by decide +kernel
theorem dX9_dies_93 : decode cX9_dies 93 = .ok (.ireturn, 1) := by decide +kernel
theorem dX9_worst_0 : decode cX9_worst 0 = .ok (.iload_n 1, 1) := by decide +kernel
theorem dX9_worst_1 : decode cX9_worst 1 = .ok (.iconst 1, 1) := by decide +kernel
theorem dX9_worst_2 : decode cX9_worst 2 = .ok (.sipush 200, 3) := by decide +kernel
theorem dX9_worst_5 : decode cX9_worst 5 = .ok (.invokestatic 102, 3) := by decide +kernel
theorem dX9_worst_8 : decode cX9_worst 8 = .ok (.ifCond .ne 5, 3) := by decide +kernel
theorem dX9_worst_11 : decode cX9_worst 11 = .ok (.iconst (-1), 1) := by decide +kernel
theorem dX9_worst_12 : decode cX9_worst 12 = .ok (.ireturn, 1) := by decide +kernel
theorem dX9_worst_13 : decode cX9_worst 13 = .ok (.iconst (-1), 1) := by decide +kernel
theorem dX9_worst_14 : decode cX9_worst 14 = .ok (.istore_n 2, 1) := by decide +kernel
theorem dX9_worst_15 : decode cX9_worst 15 = .ok (.iconst (-1), 1) := by decide +kernel
theorem dX9_worst_16 : decode cX9_worst 16 = .ok (.istore_n 3, 1) := by decide +kernel
theorem dX9_worst_17 : decode cX9_worst 17 = .ok (.iconst 2, 1) := by decide +kernel
theorem dX9_worst_18 : decode cX9_worst 18 = .ok (.istore 4, 2) := by decide +kernel
theorem dX9_worst_20 : decode cX9_worst 20 = .ok (.iload 4, 2) := by decide +kernel
theorem dX9_worst_22 : decode cX9_worst 22 = .ok (.bipush 40, 2) := by decide +kernel
theorem dX9_worst_24 : decode cX9_worst 24 = .ok (.if_icmp .gt 76, 3) := by decide +kernel
theorem dX9_worst_27 : decode cX9_worst 27 = .ok (.aload_n 0, 1) := by decide +kernel
theorem dX9_worst_28 : decode cX9_worst 28 = .ok (.getfield 49, 3) := by decide +kernel
theorem dX9_worst_31 : decode cX9_worst 31 = .ok (.invokevirtual 257, 3) := by decide +kernel
theorem dX9_worst_34 : decode cX9_worst 34 = .ok (.aload_n 0, 1) := by decide +kernel
theorem dX9_worst_35 : decode cX9_worst 35 = .ok (.getfield 49, 3) := by decide +kernel
theorem dX9_worst_38 : decode cX9_worst 38 = .ok (.iload_n 1, 1) := by decide +kernel
theorem dX9_worst_39 : decode cX9_worst 39 = .ok (.iload 4, 2) := by decide +kernel
theorem dX9_worst_41 : decode cX9_worst 41 = .ok (.iconst 0, 1) := by decide +kernel
theorem dX9_worst_42 : decode cX9_worst 42 = .ok (.bipush 20, 2) := by decide +kernel
theorem dX9_worst_44 : decode cX9_worst 44 = .ok (.invokevirtual 260, 3) := by decide +kernel
theorem dX9_worst_47 : decode cX9_worst 47 = .ok (.aload_n 0, 1) := by decide +kernel
theorem dX9_worst_48 : decode cX9_worst 48 = .ok (.invokevirtual 242, 3) := by decide +kernel
theorem dX9_worst_51 : decode cX9_worst 51 = .ok (.astore 5, 2) := by decide +kernel
theorem dX9_worst_53 : decode cX9_worst 53 = .ok (.aload 5, 2) := by decide +kernel
theorem dX9_worst_55 : decode cX9_worst 55 = .ok (.getfield 264, 3) := by decide +kernel
theorem dX9_worst_58 : decode cX9_worst 58 = .ok (.getfield 124, 3) := by decide +kernel
theorem dX9_worst_61 : decode cX9_worst 61 = .ok (.iconst 4, 1) := by decide +kernel
theorem dX9_worst_62 : decode cX9_worst 62 = .ok (.bipush 100, 2) := by decide +kernel
theorem dX9_worst_64 : decode cX9_worst 64 = .ok (.iastore, 1) := by decide +kernel
theorem dX9_worst_65 : decode cX9_worst 65 = .ok (.aload 5, 2) := by decide +kernel
theorem dX9_worst_67 : decode cX9_worst 67 = .ok (.aload_n 0, 1) := by decide +kernel
theorem dX9_worst_68 : decode cX9_worst 68 = .ok (.getfield 49, 3) := by decide +kernel
theorem dX9_worst_71 : decode cX9_worst 71 = .ok (.iconst 1, 1) := by decide +kernel
theorem dX9_worst_72 : decode cX9_worst 72 = .ok (.invokevirtual 265, 3) := by decide +kernel
theorem dX9_worst_75 : decode cX9_worst 75 = .ok (.pop, 1) := by decide +kernel
theorem dX9_worst_76 : decode cX9_worst 76 = .ok (.aload 5, 2) := by decide +kernel
theorem dX9_worst_78 : decode cX9_worst 78 = .ok (.getfield 269, 3) := by decide +kernel
theorem dX9_worst_81 : decode cX9_worst 81 = .ok (.iload_n 3, 1) := by decide +kernel
theorem dX9_worst_82 : decode cX9_worst 82 = .ok (.if_icmp .le 12, 3) := by decide +kernel
theorem dX9_worst_85 : decode cX9_worst 85 = .ok (.aload 5, 2) := by decide +kernel
theorem dX9_worst_87 : decode cX9_worst 87 = .ok (.getfield 269, 3) := by decide +kernel
theorem dX9_worst_90 : decode cX9_worst 90 = .ok (.istore_n 3, 1) := by decide +kernel
theorem dX9_worst_91 : decode cX9_worst 91 = .ok (.iload 4, 2) := by decide +kernel
theorem dX9_worst_93 : decode cX9_worst 93 = .ok (.istore_n 2, 1) := by decide +kernel
theorem dX9_worst_94 : decode cX9_worst 94 = .ok (.iinc 4 1, 3) := by decide +kernel
theorem dX9_worst_97 : decode cX9_worst 97 = .ok (.goto (-77), 3) := by decide +kernel
theorem dX9_worst_100 : decode cX9_worst 100 = .ok (.aload_n 0, 1) := by decide +kernel
theorem dX9_worst_101 : decode cX9_worst 101 = .ok (.iload_n 3, 1) := by decide +kernel
theorem dX9_worst_102 : decode cX9_worst 102 = .ok (.i2l, 1) := by decide +kernel
theorem dX9_worst_103 : decode cX9_worst 103 = .ok (.invokevirtual 272, 3) := by decide +kernel
theorem dX9_worst_106 : decode cX9_worst 106 = .ok (.iload_n 2, 1) := by decide +kernel
theorem dX9_worst_107 : decode cX9_worst 107 = .ok (.ireturn, 1) := by decide +kernel
theorem dX9_would_0 : decode cX9_would 0 = .ok (.iload_n 1, 1) := by decide +kernel
theorem dX9_would_1 : decode cX9_would 1 = .ok (.invokestatic 193, 3) := by decide +kernel
theorem dX9_would_4 : decode cX9_would 4 = .ok (.ifCond .ne 5, 3) := by decide +kernel
theorem dX9_would_7 : decode cX9_would 7 = .ok (.iconst (-1), 1) := by decide +kernel
theorem dX9_would_8 : decode cX9_would 8 = .ok (.ireturn, 1) := by decide +kernel
theorem dX9_would_9 : decode cX9_would 9 = .ok (.aload_n 0, 1) := by decide +kernel
theorem dX9_would_10 : decode cX9_would 10 = .ok (.invokevirtual 242, 3) := by decide +kernel
theorem dX9_would_13 : decode cX9_would 13 = .ok (.astore_n 3, 1) := by decide +kernel
theorem dX9_would_14 : decode cX9_would 14 = .ok (.aload_n 3, 1) := by decide +kernel
theorem dX9_would_15 : decode cX9_would 15 = .ok (.aload_n 0, 1) := by decide +kernel
theorem dX9_would_16 : decode cX9_would 16 = .ok (.getfield 40, 3) := by decide +kernel
theorem dX9_would_19 : decode cX9_would 19 = .ok (.iload_n 1, 1) := by decide +kernel
theorem dX9_would_20 : decode cX9_would 20 = .ok (.aaload, 1) := by decide +kernel
theorem dX9_would_21 : decode cX9_would 21 = .ok (.iload_n 2, 1) := by decide +kernel
theorem dX9_would_22 : decode cX9_would 22 = .ok (.invokevirtual 265, 3) := by decide +kernel
theorem dX9_would_25 : decode cX9_would 25 = .ok (.istore 4, 2) := by decide +kernel
theorem dX9_would_27 : decode cX9_would 27 = .ok (.aload_n 0, 1) := by decide +kernel
theorem dX9_would_28 : decode cX9_would 28 = .ok (.aload_n 3, 1) := by decide +kernel
theorem dX9_would_29 : decode cX9_would 29 = .ok (.getfield 275, 3) := by decide +kernel
theorem dX9_would_32 : decode cX9_would 32 = .ok (.i2l, 1) := by decide +kernel
theorem dX9_would_33 : decode cX9_would 33 = .ok (.aload_n 0, 1) := by decide +kernel
theorem dX9_would_34 : decode cX9_would 34 = .ok (.getfield 40, 3) := by decide +kernel
theorem dX9_would_37 : decode cX9_would 37 = .ok (.iload_n 1, 1) := by decide +kernel
theorem dX9_would_38 : decode cX9_would 38 = .ok (.aaload, 1) := by decide +kernel
theorem dX9_would_39 : decode cX9_would 39 = .ok (.aload_n 3, 1) := by decide +kernel
theorem dX9_would_40 : decode cX9_would 40 = .ok (.getfield 275, 3) := by decide +kernel
theorem dX9_would_43 : decode cX9_would 43 = .ok (.invokevirtual 278, 3) := by decide +kernel
theorem dX9_would_46 : decode cX9_would 46 = .ok (.i2l, 1) := by decide +kernel
theorem dX9_would_47 : decode cX9_would 47 = .ok (.aload_n 3, 1) := by decide +kernel
theorem dX9_would_48 : decode cX9_would 48 = .ok (.getfield 281, 3) := by decide +kernel
theorem dX9_would_51 : decode cX9_would 51 = .ok (.i2l, 1) := by decide +kernel
theorem dX9_would_52 : decode cX9_would 52 = .ok (.invokevirtual 226, 3) := by decide +kernel
theorem dX9_would_55 : decode cX9_would 55 = .ok (.iload 4, 2) := by decide +kernel
theorem dX9_would_57 : decode cX9_would 57 = .ok (.ireturn, 1) := by decide +kernel
theorem dX9_odds_0 : decode cX9_odds 0 = .ok (.iload_n 1, 1) := by decide +kernel
theorem dX9_odds_1 : decode cX9_odds 1 = .ok (.invokestatic 193, 3) := by decide +kernel
theorem dX9_odds_4 : decode cX9_odds 4 = .ok (.ifCond .eq 13, 3) := by decide +kernel
theorem dX9_odds_7 : decode cX9_odds 7 = .ok (.iload_n 2, 1) := by decide +kernel
theorem dX9_odds_8 : decode cX9_odds 8 = .ok (.iconst 1, 1) := by decide +kernel
theorem dX9_odds_9 : decode cX9_odds 9 = .ok (.bipush 20, 2) := by decide +kernel
theorem dX9_odds_11 : decode cX9_odds 11 = .ok (.invokestatic 102, 3) := by decide +kernel
theorem dX9_odds_14 : decode cX9_odds 14 = .ok (.ifCond .ne 5, 3) := by decide +kernel
theorem dX9_odds_17 : decode cX9_odds 17 = .ok (.iconst (-1), 1) := by decide +kernel
theorem dX9_odds_18 : decode cX9_odds 18 = .ok (.ireturn, 1) := by decide +kernel
theorem dX9_odds_19 : decode cX9_odds 19 = .ok (.aload_n 0, 1) := by decide +kernel
theorem dX9_odds_20 : decode cX9_odds 20 = .ok (.invokevirtual 242, 3) := by decide +kernel
theorem dX9_odds_23 : decode cX9_odds 23 = .ok (.astore_n 3, 1) := by decide +kernel
theorem dX9_odds_24 : decode cX9_odds 24 = .ok (.aload_n 3, 1) := by decide +kernel
theorem dX9_odds_25 : decode cX9_odds 25 = .ok (.invokevirtual 283, 3) := by decide +kernel
theorem dX9_odds_28 : decode cX9_odds 28 = .ok (.iconst 0, 1) := by decide +kernel
theorem dX9_odds_29 : decode cX9_odds 29 = .ok (.istore 4, 2) := by decide +kernel
theorem dX9_odds_31 : decode cX9_odds 31 = .ok (.iconst 1, 1) := by decide +kernel
theorem dX9_odds_32 : decode cX9_odds 32 = .ok (.istore 5, 2) := by decide +kernel
theorem dX9_odds_34 : decode cX9_odds 34 = .ok (.iload 5, 2) := by decide +kernel
theorem dX9_odds_36 : decode cX9_odds 36 = .ok (.iload_n 2, 1) := by decide +kernel
theorem dX9_odds_37 : decode cX9_odds 37 = .ok (.if_icmp .gt 44, 3) := by decide +kernel
theorem dX9_odds_40 : decode cX9_odds 40 = .ok (.aload_n 3, 1) := by decide +kernel
theorem dX9_odds_41 : decode cX9_odds 41 = .ok (.aload_n 0, 1) := by decide +kernel
theorem dX9_odds_42 : decode cX9_odds 42 = .ok (.getfield 40, 3) := by decide +kernel
theorem dX9_odds_45 : decode cX9_odds 45 = .ok (.iload_n 1, 1) := by decide +kernel
theorem dX9_odds_46 : decode cX9_odds 46 = .ok (.aaload, 1) := by decide +kernel
theorem dX9_odds_47 : decode cX9_odds 47 = .ok (.iload 5, 2) := by decide +kernel
theorem dX9_odds_49 : decode cX9_odds 49 = .ok (.invokevirtual 265, 3) := by decide +kernel
theorem dX9_odds_52 : decode cX9_odds 52 = .ok (.ifCond .le 23, 3) := by decide +kernel
theorem dX9_odds_55 : decode cX9_odds 55 = .ok (.iinc 4 1, 3) := by decide +kernel
theorem dX9_odds_58 : decode cX9_odds 58 = .ok (.aload_n 3, 1) := by decide +kernel
theorem dX9_odds_59 : decode cX9_odds 59 = .ok (.aload_n 0, 1) := by decide +kernel
theorem dX9_odds_60 : decode cX9_odds 60 = .ok (.getfield 40, 3) := by decide +kernel
theorem dX9_odds_63 : decode cX9_odds 63 = .ok (.iload_n 1, 1) := by decide +kernel
theorem dX9_odds_64 : decode cX9_odds 64 = .ok (.aaload, 1) := by decide +kernel
theorem dX9_odds_65 : decode cX9_odds 65 = .ok (.aload_n 3, 1) := by decide +kernel
theorem dX9_odds_66 : decode cX9_odds 66 = .ok (.getfield 275, 3) := by decide +kernel
theorem dX9_odds_69 : decode cX9_odds 69 = .ok (.invokevirtual 278, 3) := by decide +kernel
theorem dX9_odds_72 : decode cX9_odds 72 = .ok (.invokevirtual 286, 3) := by decide +kernel
theorem dX9_odds_75 : decode cX9_odds 75 = .ok (.iinc 5 1, 3) := by decide +kernel
theorem dX9_odds_78 : decode cX9_odds 78 = .ok (.goto (-44), 3) := by decide +kernel
theorem dX9_odds_81 : decode cX9_odds 81 = .ok (.aload_n 0, 1) := by decide +kernel
theorem dX9_odds_82 : decode cX9_odds 82 = .ok (.iconst 0, 1) := by decide +kernel
theorem dX9_odds_83 : decode cX9_odds 83 = .ok (.putfield 95, 3) := by decide +kernel
theorem dX9_odds_86 : decode cX9_odds 86 = .ok (.aload_n 0, 1) := by decide +kernel
theorem dX9_odds_87 : decode cX9_odds 87 = .ok (.iload 4, 2) := by decide +kernel
theorem dX9_odds_89 : decode cX9_odds 89 = .ok (.iload_n 2, 1) := by decide +kernel
theorem dX9_odds_90 : decode cX9_odds 90 = .ok (.invokevirtual 290, 3) := by decide +kernel
theorem dX9_odds_93 : decode cX9_odds 93 = .ok (.aload_n 0, 1) := by decide +kernel
theorem dX9_odds_94 : decode cX9_odds 94 = .ok (.aload_n 3, 1) := by decide +kernel
theorem dX9_odds_95 : decode cX9_odds 95 = .ok (.invokevirtual 294, 3) := by decide +kernel
theorem dX9_odds_98 : decode cX9_odds 98 = .ok (.i2l, 1) := by decide +kernel
theorem dX9_odds_99 : decode cX9_odds 99 = .ok (.invokevirtual 297, 3) := by decide +kernel
theorem dX9_odds_102 : decode cX9_odds 102 = .ok (.iconst 0, 1) := by decide +kernel
theorem dX9_odds_103 : decode cX9_odds 103 = .ok (.ireturn, 1) := by decide +kernel
theorem dX9_full_0 : decode cX9_full 0 = .ok (.iload_n 1, 1) := by decide +kernel
theorem dX9_full_1 : decode cX9_full 1 = .ok (.invokestatic 193, 3) := by decide +kernel
theorem dX9_full_4 : decode cX9_full 4 = .ok (.ifCond .ne 5, 3) := by decide +kernel
theorem dX9_full_7 : decode cX9_full 7 = .ok (.iconst (-1), 1) := by decide +kernel
theorem dX9_full_8 : decode cX9_full 8 = .ok (.ireturn, 1) := by decide +kernel
theorem dX9_full_9 : decode cX9_full 9 = .ok (.bipush 20, 2) := by decide +kernel
theorem dX9_full_11 : decode cX9_full 11 = .ok (.istore_n 2, 1) := by decide +kernel
theorem dX9_full_12 : decode cX9_full 12 = .ok (.iload_n 2, 1) := by decide +kernel
theorem dX9_full_13 : decode cX9_full 13 = .ok (.ifCond .lt 54, 3) := by decide +kernel
theorem dX9_full_16 : decode cX9_full 16 = .ok (.aload_n 0, 1) := by decide +kernel
theorem dX9_full_17 : decode cX9_full 17 = .ok (.invokevirtual 242, 3) := by decide +kernel
theorem dX9_full_20 : decode cX9_full 20 = .ok (.astore_n 3, 1) := by decide +kernel
theorem dX9_full_21 : decode cX9_full 21 = .ok (.aload_n 3, 1) := by decide +kernel
theorem dX9_full_22 : decode cX9_full 22 = .ok (.getfield 264, 3) := by decide +kernel
theorem dX9_full_25 : decode cX9_full 25 = .ok (.aload_n 0, 1) := by decide +kernel
theorem dX9_full_26 : decode cX9_full 26 = .ok (.getfield 10, 3) := by decide +kernel
theorem dX9_full_29 : decode cX9_full 29 = .ok (.getfield 109, 3) := by decide +kernel
theorem dX9_full_32 : decode cX9_full 32 = .ok (.iload_n 2, 1) := by decide +kernel
theorem dX9_full_33 : decode cX9_full 33 = .ok (.imul, 1) := by decide +kernel
theorem dX9_full_34 : decode cX9_full 34 = .ok (.bipush 20, 2) := by decide +kernel
theorem dX9_full_36 : decode cX9_full 36 = .ok (.idiv, 1) := by decide +kernel
theorem dX9_full_37 : decode cX9_full 37 = .ok (.putfield 112, 3) := by decide +kernel
theorem dX9_full_40 : decode cX9_full 40 = .ok (.aload_n 3, 1) := by decide +kernel
theorem dX9_full_41 : decode cX9_full 41 = .ok (.aload_n 0, 1) := by decide +kernel
theorem dX9_full_42 : decode cX9_full 42 = .ok (.getfield 40, 3) := by decide +kernel
theorem dX9_full_45 : decode cX9_full 45 = .ok (.iload_n 1, 1) := by decide +kernel
theorem dX9_full_46 : decode cX9_full 46 = .ok (.aaload, 1) := by decide +kernel
theorem dX9_full_47 : decode cX9_full 47 = .ok (.invokevirtual 300, 3) := by decide +kernel
theorem dX9_full_50 : decode cX9_full 50 = .ok (.ifCond .eq 11, 3) := by decide +kernel
theorem dX9_full_53 : decode cX9_full 53 = .ok (.aload_n 3, 1) := by decide +kernel
theorem dX9_full_54 : decode cX9_full 54 = .ok (.getfield 264, 3) := by decide +kernel
theorem dX9_full_57 : decode cX9_full 57 = .ok (.getfield 112, 3) := by decide +kernel
theorem dX9_full_60 : decode cX9_full 60 = .ok (.ireturn, 1) := by decide +kernel
theorem dX9_full_61 : decode cX9_full 61 = .ok (.iinc 2 (-1), 3) := by decide +kernel
theorem dX9_full_64 : decode cX9_full 64 = .ok (.goto (-52), 3) := by decide +kernel
theorem dX9_full_67 : decode cX9_full 67 = .ok (.bipush (-2), 2) := by decide +kernel
theorem dX9_full_69 : decode cX9_full 69 = .ok (.ireturn, 1) := by decide +kernel
theorem dX9_leads_0 : decode cX9_leads 0 = .ok (.iload_n 1, 1) := by decide +kernel
theorem dX9_leads_1 : decode cX9_leads 1 = .ok (.invokestatic 193, 3) := by decide +kernel
theorem dX9_leads_4 : decode cX9_leads 4 = .ok (.ifCond .eq 13, 3) := by decide +kernel
theorem dX9_leads_7 : decode cX9_leads 7 = .ok (.iload_n 2, 1) := by decide +kernel
theorem dX9_leads_8 : decode cX9_leads 8 = .ok (.iconst 0, 1) := by decide +kernel
theorem dX9_leads_9 : decode cX9_leads 9 = .ok (.bipush 99, 2) := by decide +kernel
theorem dX9_leads_11 : decode cX9_leads 11 = .ok (.invokestatic 102, 3) := by decide +kernel
theorem dX9_leads_14 : decode cX9_leads 14 = .ok (.ifCond .ne 5, 3) := by decide +kernel
theorem dX9_leads_17 : decode cX9_leads 17 = .ok (.iconst (-1), 1) := by decide +kernel
theorem dX9_leads_18 : decode cX9_leads 18 = .ok (.ireturn, 1) := by decide +kernel
theorem dX9_leads_19 : decode cX9_leads 19 = .ok (.aload_n 0, 1) := by decide +kernel
theorem dX9_leads_20 : decode cX9_leads 20 = .ok (.getfield 44, 3) := by decide +kernel
theorem dX9_leads_23 : decode cX9_leads 23 = .ok (.iload_n 1, 1) := by decide +kernel
theorem dX9_leads_24 : decode cX9_leads 24 = .ok (.iaload, 1) := by decide +kernel
theorem dX9_leads_25 : decode cX9_leads 25 = .ok (.istore_n 3, 1) := by decide +kernel
theorem dX9_leads_26 : decode cX9_leads 26 = .ok (.aload_n 0, 1) := by decide +kernel
theorem dX9_leads_27 : decode cX9_leads 27 = .ok (.getfield 44, 3) := by decide +kernel
theorem dX9_leads_30 : decode cX9_leads 30 = .ok (.iload_n 1, 1) := by decide +kernel
theorem dX9_leads_31 : decode cX9_leads 31 = .ok (.iload_n 2, 1) := by decide +kernel
theorem dX9_leads_32 : decode cX9_leads 32 = .ok (.iastore, 1) := by decide +kernel
theorem dX9_leads_33 : decode cX9_leads 33 = .ok (.iload_n 3, 1) := by decide +kernel
theorem dX9_leads_34 : decode cX9_leads 34 = .ok (.ireturn, 1) := by decide +kernel
theorem dX9_plan_0 : decode cX9_plan 0 = .ok (.iload_n 1, 1) := by decide +kernel
theorem dX9_plan_1 : decode cX9_plan 1 = .ok (.iconst 1, 1) := by decide +kernel
theorem dX9_plan_2 : decode cX9_plan 2 = .ok (.sipush 400, 3) := by decide +kernel
theorem dX9_plan_5 : decode cX9_plan 5 = .ok (.invokestatic 102, 3) := by decide +kernel
theorem dX9_plan_8 : decode cX9_plan 8 = .ok (.ifCond .ne 5, 3) := by decide +kernel
theorem dX9_plan_11 : decode cX9_plan 11 = .ok (.iconst (-1), 1) := by decide +kernel
theorem dX9_plan_12 : decode cX9_plan 12 = .ok (.ireturn, 1) := by decide +kernel
theorem dX9_plan_13 : decode cX9_plan 13 = .ok (.aload_n 0, 1) := by decide +kernel
theorem dX9_plan_14 : decode cX9_plan 14 = .ok (.getfield 74, 3) := by decide +kernel
theorem dX9_plan_17 : decode cX9_plan 17 = .ok (.aload_n 0, 1) := by decide +kernel
theorem dX9_plan_18 : decode cX9_plan 18 = .ok (.getfield 10, 3) := by decide +kernel
theorem dX9_plan_21 : decode cX9_plan 21 = .ok (.aload_n 0, 1) := by decide +kernel
theorem dX9_plan_22 : decode cX9_plan 22 = .ok (.aload_n 0, 1) := by decide +kernel
theorem dX9_plan_23 : decode cX9_plan 23 = .ok (.getfield 10, 3) := by decide +kernel
theorem dX9_plan_26 : decode cX9_plan 26 = .ok (.getfield 124, 3) := by decide +kernel
theorem dX9_plan_29 : decode cX9_plan 29 = .ok (.bipush 6, 2) := by decide +kernel
theorem dX9_plan_31 : decode cX9_plan 31 = .ok (.iaload, 1) := by decide +kernel
theorem dX9_plan_32 : decode cX9_plan 32 = .ok (.invokevirtual 208, 3) := by decide +kernel
theorem dX9_plan_35 : decode cX9_plan 35 = .ok (.iload_n 1, 1) := by decide +kernel
theorem dX9_plan_36 : decode cX9_plan 36 = .ok (.invokevirtual 304, 3) := by decide +kernel
theorem dX9_plan_39 : decode cX9_plan 39 = .ok (.aload_n 0, 1) := by decide +kernel
theorem dX9_plan_40 : decode cX9_plan 40 = .ok (.getfield 74, 3) := by decide +kernel
theorem dX9_plan_43 : decode cX9_plan 43 = .ok (.aload_n 0, 1) := by decide +kernel
theorem dX9_plan_44 : decode cX9_plan 44 = .ok (.getfield 40, 3) := by decide +kernel
theorem dX9_plan_47 : decode cX9_plan 47 = .ok (.aload_n 0, 1) := by decide +kernel
theorem dX9_plan_48 : decode cX9_plan 48 = .ok (.getfield 44, 3) := by decide +kernel
theorem dX9_plan_51 : decode cX9_plan 51 = .ok (.iconst 0, 1) := by decide +kernel
theorem dX9_plan_52 : decode cX9_plan 52 = .ok (.iconst 0, 1) := by decide +kernel
theorem dX9_plan_53 : decode cX9_plan 53 = .ok (.iconst 0, 1) := by decide +kernel
theorem dX9_plan_54 : decode cX9_plan 54 = .ok (.invokestatic 308, 3) := by decide +kernel
theorem dX9_plan_57 : decode cX9_plan 57 = .ok (.aload_n 0, 1) := by decide +kernel
theorem dX9_plan_58 : decode cX9_plan 58 = .ok (.getfield 74, 3) := by decide +kernel
theorem dX9_plan_61 : decode cX9_plan 61 = .ok (.getfield 312, 3) := by decide +kernel
theorem dX9_plan_64 : decode cX9_plan 64 = .ok (.ifCond .ne 6, 3) := by decide +kernel
theorem dX9_plan_67 : decode cX9_plan 67 = .ok (.bipush (-2), 2) := by decide +kernel
theorem dX9_plan_69 : decode cX9_plan 69 = .ok (.ireturn, 1) := by decide +kernel
theorem dX9_plan_70 : decode cX9_plan 70 = .ok (.aload_n 0, 1) := by decide +kernel
theorem dX9_plan_71 : decode cX9_plan 71 = .ok (.iconst 0, 1) := by decide +kernel
theorem dX9_plan_72 : decode cX9_plan 72 = .ok (.putfield 95, 3) := by decide +kernel
theorem dX9_plan_75 : decode cX9_plan 75 = .ok (.iconst 0, 1) := by decide +kernel
theorem dX9_plan_76 : decode cX9_plan 76 = .ok (.istore_n 2, 1) := by decide +kernel
theorem dX9_plan_77 : decode cX9_plan 77 = .ok (.iload_n 2, 1) := by decide +kernel
theorem dX9_plan_78 : decode cX9_plan 78 = .ok (.aload_n 0, 1) := by decide +kernel
theorem dX9_plan_79 : decode cX9_plan 79 = .ok (.getfield 74, 3) := by decide +kernel
theorem dX9_plan_82 : decode cX9_plan 82 = .ok (.getfield 312, 3) := by decide +kernel
theorem dX9_plan_85 : decode cX9_plan 85 = .ok (.if_icmp .ge 35, 3) := by decide +kernel
theorem dX9_plan_88 : decode cX9_plan 88 = .ok (.iload_n 2, 1) := by decide +kernel
theorem dX9_plan_89 : decode cX9_plan 89 = .ok (.aload_n 0, 1) := by decide +kernel
theorem dX9_plan_90 : decode cX9_plan 90 = .ok (.getfield 74, 3) := by decide +kernel
theorem dX9_plan_93 : decode cX9_plan 93 = .ok (.getfield 315, 3) := by decide +kernel
theorem dX9_plan_96 : decode cX9_plan 96 = .ok (.arraylength, 1) := by decide +kernel
theorem dX9_plan_97 : decode cX9_plan 97 = .ok (.if_icmp .ge 23, 3) := by decide +kernel
theorem dX9_plan_100 : decode cX9_plan 100 = .ok (.aload_n 0, 1) := by decide +kernel
theorem dX9_plan_101 : decode cX9_plan 101 = .ok (.aload_n 0, 1) := by decide +kernel
theorem dX9_plan_102 : decode cX9_plan 102 = .ok (.getfield 74, 3) := by decide +kernel
theorem dX9_plan_105 : decode cX9_plan 105 = .ok (.getfield 315, 3) := by decide +kernel
theorem dX9_plan_108 : decode cX9_plan 108 = .ok (.iload_n 2, 1) := by decide +kernel
theorem dX9_plan_109 : decode cX9_plan 109 = .ok (.iaload, 1) := by decide +kernel
theorem dX9_plan_110 : decode cX9_plan 110 = .ok (.i2l, 1) := by decide +kernel
theorem dX9_plan_111 : decode cX9_plan 111 = .ok (.invokevirtual 297, 3) := by decide +kernel
theorem dX9_plan_114 : decode cX9_plan 114 = .ok (.iinc 2 1, 3) := by decide +kernel
theorem dX9_plan_117 : decode cX9_plan 117 = .ok (.goto (-40), 3) := by decide +kernel
theorem dX9_plan_120 : decode cX9_plan 120 = .ok (.aload_n 0, 1) := by decide +kernel
theorem dX9_plan_121 : decode cX9_plan 121 = .ok (.getfield 74, 3) := by decide +kernel
theorem dX9_plan_124 : decode cX9_plan 124 = .ok (.getfield 318, 3) := by decide +kernel
theorem dX9_plan_127 : decode cX9_plan 127 = .ok (.ireturn, 1) := by decide +kernel
theorem dX9_helps_0 : decode cX9_helps 0 = .ok (.aload_n 0, 1) := by decide +kernel
theorem dX9_helps_1 : decode cX9_helps 1 = .ok (.iload_n 2, 1) := by decide +kernel
theorem dX9_helps_2 : decode cX9_helps 2 = .ok (.invokevirtual 208, 3) := by decide +kernel
theorem dX9_helps_5 : decode cX9_helps 5 = .ok (.astore_n 3, 1) := by decide +kernel
theorem dX9_helps_6 : decode cX9_helps 6 = .ok (.iload_n 1, 1) := by decide +kernel
theorem dX9_helps_7 : decode cX9_helps 7 = .ok (.invokestatic 193, 3) := by decide +kernel
theorem dX9_helps_10 : decode cX9_helps 10 = .ok (.ifCond .eq 7, 3) := by decide +kernel
theorem dX9_helps_13 : decode cX9_helps 13 = .ok (.aload_n 3, 1) := by decide +kernel
theorem dX9_helps_14 : decode cX9_helps 14 = .ok (.ifnonnull 5, 3) := by decide +kernel
theorem dX9_helps_17 : decode cX9_helps 17 = .ok (.iconst (-1), 1) := by decide +kernel
theorem dX9_helps_18 : decode cX9_helps 18 = .ok (.ireturn, 1) := by decide +kernel
theorem dX9_helps_19 : decode cX9_helps 19 = .ok (.aload_n 0, 1) := by decide +kernel
theorem dX9_helps_20 : decode cX9_helps 20 = .ok (.invokevirtual 242, 3) := by decide +kernel
theorem dX9_helps_23 : decode cX9_helps 23 = .ok (.astore 4, 2) := by decide +kernel
theorem dX9_helps_25 : decode cX9_helps 25 = .ok (.aload 4, 2) := by decide +kernel
theorem dX9_helps_27 : decode cX9_helps 27 = .ok (.aconst_null, 1) := by decide +kernel
theorem dX9_helps_28 : decode cX9_helps 28 = .ok (.putfield 321, 3) := by decide +kernel
theorem dX9_helps_31 : decode cX9_helps 31 = .ok (.aload 4, 2) := by decide +kernel
theorem dX9_helps_33 : decode cX9_helps 33 = .ok (.aload_n 0, 1) := by decide +kernel
theorem dX9_helps_34 : decode cX9_helps 34 = .ok (.getfield 40, 3) := by decide +kernel
theorem dX9_helps_37 : decode cX9_helps 37 = .ok (.iload_n 1, 1) := by decide +kernel
theorem dX9_helps_38 : decode cX9_helps 38 = .ok (.aaload, 1) := by decide +kernel
theorem dX9_helps_39 : decode cX9_helps 39 = .ok (.iconst 1, 1) := by decide +kernel
theorem dX9_helps_40 : decode cX9_helps 40 = .ok (.invokevirtual 265, 3) := by decide +kernel
theorem dX9_helps_43 : decode cX9_helps 43 = .ok (.istore 5, 2) := by decide +kernel
theorem dX9_helps_45 : decode cX9_helps 45 = .ok (.iconst 0, 1) := by decide +kernel
theorem dX9_helps_46 : decode cX9_helps 46 = .ok (.istore 6, 2) := by decide +kernel
theorem dX9_helps_48 : decode cX9_helps 48 = .ok (.ldc_w 326, 3) := by decide +kernel
theorem dX9_helps_51 : decode cX9_helps 51 = .ok (.istore 7, 2) := by decide +kernel
theorem dX9_helps_53 : decode cX9_helps 53 = .ok (.iconst (-1), 1) := by decide +kernel
theorem dX9_helps_54 : decode cX9_helps 54 = .ok (.istore 8, 2) := by decide +kernel
theorem dX9_helps_56 : decode cX9_helps 56 = .ok (.iconst 0, 1) := by decide +kernel
theorem dX9_helps_57 : decode cX9_helps 57 = .ok (.istore 9, 2) := by decide +kernel
theorem dX9_helps_59 : decode cX9_helps 59 = .ok (.iload 9, 2) := by decide +kernel
theorem dX9_helps_61 : decode cX9_helps 61 = .ok (.bipush 20, 2) := by decide +kernel
theorem dX9_helps_63 : decode cX9_helps 63 = .ok (.if_icmp .gt 78, 3) := by decide +kernel
theorem dX9_helps_66 : decode cX9_helps 66 = .ok (.aload_n 0, 1) := by decide +kernel
theorem dX9_helps_67 : decode cX9_helps 67 = .ok (.invokevirtual 242, 3) := by decide +kernel
theorem dX9_helps_70 : decode cX9_helps 70 = .ok (.astore 10, 2) := by decide +kernel
theorem dX9_helps_72 : decode cX9_helps 72 = .ok (.aload 10, 2) := by decide +kernel
theorem dX9_helps_74 : decode cX9_helps 74 = .ok (.aload_n 3, 1) := by decide +kernel
theorem dX9_helps_75 : decode cX9_helps 75 = .ok (.putfield 321, 3) := by decide +kernel
theorem dX9_helps_78 : decode cX9_helps 78 = .ok (.aload 10, 2) := by decide +kernel
theorem dX9_helps_80 : decode cX9_helps 80 = .ok (.getfield 264, 3) := by decide +kernel
theorem dX9_helps_83 : decode cX9_helps 83 = .ok (.getfield 124, 3) := by decide +kernel
theorem dX9_helps_86 : decode cX9_helps 86 = .ok (.iconst 5, 1) := by decide +kernel
theorem dX9_helps_87 : decode cX9_helps 87 = .ok (.iload 9, 2) := by decide +kernel
theorem dX9_helps_89 : decode cX9_helps 89 = .ok (.iastore, 1) := by decide +kernel
theorem dX9_helps_90 : decode cX9_helps 90 = .ok (.aload 10, 2) := by decide +kernel
theorem dX9_helps_92 : decode cX9_helps 92 = .ok (.aload_n 0, 1) := by decide +kernel
theorem dX9_helps_93 : decode cX9_helps 93 = .ok (.getfield 40, 3) := by decide +kernel
theorem dX9_helps_96 : decode cX9_helps 96 = .ok (.iload_n 1, 1) := by decide +kernel
theorem dX9_helps_97 : decode cX9_helps 97 = .ok (.aaload, 1) := by decide +kernel
theorem dX9_helps_98 : decode cX9_helps 98 = .ok (.iconst 1, 1) := by decide +kernel
theorem dX9_helps_99 : decode cX9_helps 99 = .ok (.invokevirtual 265, 3) := by decide +kernel
theorem dX9_helps_102 : decode cX9_helps 102 = .ok (.istore 11, 2) := by decide +kernel
theorem dX9_helps_104 : decode cX9_helps 104 = .ok (.iload 11, 2) := by decide +kernel
theorem dX9_helps_106 : decode cX9_helps 106 = .ok (.iload 5, 2) := by decide +kernel
theorem dX9_helps_108 : decode cX9_helps 108 = .ok (.if_icmp .ge 12, 3) := by decide +kernel
theorem dX9_helps_111 : decode cX9_helps 111 = .ok (.iload 6, 2) := by decide +kernel
theorem dX9_helps_113 : decode cX9_helps 113 = .ok (.iconst 1, 1) := by decide +kernel
theorem dX9_helps_114 : decode cX9_helps 114 = .ok (.iload 9, 2) := by decide +kernel
theorem dX9_helps_116 : decode cX9_helps 116 = .ok (.ishl, 1) := by decide +kernel
theorem dX9_helps_117 : decode cX9_helps 117 = .ok (.ior, 1) := by decide +kernel
theorem dX9_helps_118 : decode cX9_helps 118 = .ok (.istore 6, 2) := by decide +kernel
theorem dX9_helps_120 : decode cX9_helps 120 = .ok (.iload 11, 2) := by decide +kernel
theorem dX9_helps_122 : decode cX9_helps 122 = .ok (.iload 7, 2) := by decide +kernel
theorem dX9_helps_124 : decode cX9_helps 124 = .ok (.if_icmp .ge 11, 3) := by decide +kernel
theorem dX9_helps_127 : decode cX9_helps 127 = .ok (.iload 11, 2) := by decide +kernel
theorem dX9_helps_129 : decode cX9_helps 129 = .ok (.istore 7, 2) := by decide +kernel
theorem dX9_helps_131 : decode cX9_helps 131 = .ok (.iload 9, 2) := by decide +kernel
theorem dX9_helps_133 : decode cX9_helps 133 = .ok (.istore 8, 2) := by decide +kernel
theorem dX9_helps_135 : decode cX9_helps 135 = .ok (.iinc 9 1, 3) := by decide +kernel
theorem dX9_helps_138 : decode cX9_helps 138 = .ok (.goto (-79), 3) := by decide +kernel
theorem dX9_helps_141 : decode cX9_helps 141 = .ok (.aload_n 0, 1) := by decide +kernel
theorem dX9_helps_142 : decode cX9_helps 142 = .ok (.iload 5, 2) := by decide +kernel
theorem dX9_helps_144 : decode cX9_helps 144 = .ok (.i2l, 1) := by decide +kernel
theorem dX9_helps_145 : decode cX9_helps 145 = .ok (.iload 7, 2) := by decide +kernel
theorem dX9_helps_147 : decode cX9_helps 147 = .ok (.i2l, 1) := by decide +kernel
theorem dX9_helps_148 : decode cX9_helps 148 = .ok (.iload 8, 2) := by decide +kernel
theorem dX9_helps_150 : decode cX9_helps 150 = .ok (.i2l, 1) := by decide +kernel
theorem dX9_helps_151 : decode cX9_helps 151 = .ok (.invokevirtual 226, 3) := by decide +kernel
theorem dX9_helps_154 : decode cX9_helps 154 = .ok (.iload 6, 2) := by decide +kernel
theorem dX9_helps_156 : decode cX9_helps 156 = .ok (.ireturn, 1) := by decide +kernel
theorem dX9_extend_0 : decode cX9_extend 0 = .ok (.iconst 0, 1) := by decide +kernel
theorem dX9_extend_1 : decode cX9_extend 1 = .ok (.istore 6, 2) := by decide +kernel
theorem dX9_extend_3 : decode cX9_extend 3 = .ok (.iload 6, 2) := by decide +kernel
theorem dX9_extend_5 : decode cX9_extend 5 = .ok (.iconst 4, 1) := by decide +kernel
theorem dX9_extend_6 : decode cX9_extend 6 = .ok (.if_icmp .ge 107, 3) := by decide +kernel
theorem dX9_extend_9 : decode cX9_extend 9 = .ok (.iload_n 3, 1) := by decide +kernel
theorem dX9_extend_10 : decode cX9_extend 10 = .ok (.iconst 4, 1) := by decide +kernel
theorem dX9_extend_11 : decode cX9_extend 11 = .ok (.if_icmp .ge 102, 3) := by decide +kernel
theorem dX9_extend_14 : decode cX9_extend 14 = .ok (.iload 4, 2) := by decide +kernel
theorem dX9_extend_16 : decode cX9_extend 16 = .ok (.aload_n 2, 1) := by decide +kernel
theorem dX9_extend_17 : decode cX9_extend 17 = .ok (.iload 6, 2) := by decide +kernel
theorem dX9_extend_19 : decode cX9_extend 19 = .ok (.iaload, 1) := by decide +kernel
theorem dX9_extend_20 : decode cX9_extend 20 = .ok (.iadd, 1) := by decide +kernel
theorem dX9_extend_21 : decode cX9_extend 21 = .ok (.istore 7, 2) := by decide +kernel
theorem dX9_extend_23 : decode cX9_extend 23 = .ok (.iload 5, 2) := by decide +kernel
theorem dX9_extend_25 : decode cX9_extend 25 = .ok (.aload_n 1, 1) := by decide +kernel
theorem dX9_extend_26 : decode cX9_extend 26 = .ok (.iload 6, 2) := by decide +kernel
theorem dX9_extend_28 : decode cX9_extend 28 = .ok (.aaload, 1) := by decide +kernel
theorem dX9_extend_29 : decode cX9_extend 29 = .ok (.getfield 204, 3) := by decide +kernel
theorem dX9_extend_32 : decode cX9_extend 32 = .ok (.iadd, 1) := by decide +kernel
theorem dX9_extend_33 : decode cX9_extend 33 = .ok (.istore 8, 2) := by decide +kernel
theorem dX9_extend_35 : decode cX9_extend 35 = .ok (.aload_n 2, 1) := by decide +kernel
theorem dX9_extend_36 : decode cX9_extend 36 = .ok (.iload 6, 2) := by decide +kernel
theorem dX9_extend_38 : decode cX9_extend 38 = .ok (.iaload, 1) := by decide +kernel
theorem dX9_extend_39 : decode cX9_extend 39 = .ok (.ifCond .eq 68, 3) := by decide +kernel
theorem dX9_extend_42 : decode cX9_extend 42 = .ok (.iload 8, 2) := by decide +kernel
theorem dX9_extend_44 : decode cX9_extend 44 = .ok (.aload_n 0, 1) := by decide +kernel
theorem dX9_extend_45 : decode cX9_extend 45 = .ok (.getfield 318, 3) := by decide +kernel
theorem dX9_extend_48 : decode cX9_extend 48 = .ok (.if_icmp .ge 59, 3) := by decide +kernel
theorem dX9_extend_51 : decode cX9_extend 51 = .ok (.aload_n 0, 1) := by decide +kernel
theorem dX9_extend_52 : decode cX9_extend 52 = .ok (.iload_n 3, 1) := by decide +kernel
theorem dX9_extend_53 : decode cX9_extend 53 = .ok (.aload_n 1, 1) := by decide +kernel
theorem dX9_extend_54 : decode cX9_extend 54 = .ok (.iload 6, 2) := by decide +kernel
theorem dX9_extend_56 : decode cX9_extend 56 = .ok (.aaload, 1) := by decide +kernel
theorem dX9_extend_57 : decode cX9_extend 57 = .ok (.invokevirtual 327, 3) := by decide +kernel
theorem dX9_extend_60 : decode cX9_extend 60 = .ok (.ifCond .ne 6, 3) := by decide +kernel
theorem dX9_extend_63 : decode cX9_extend 63 = .ok (.goto 44, 3) := by decide +kernel
theorem dX9_extend_66 : decode cX9_extend 66 = .ok (.aload_n 0, 1) := by decide +kernel
theorem dX9_extend_67 : decode cX9_extend 67 = .ok (.iload_n 3, 1) := by decide +kernel
theorem dX9_extend_68 : decode cX9_extend 68 = .ok (.iload 6, 2) := by decide +kernel
theorem dX9_extend_70 : decode cX9_extend 70 = .ok (.invokevirtual 331, 3) := by decide +kernel
theorem dX9_extend_73 : decode cX9_extend 73 = .ok (.iload 7, 2) := by decide +kernel
theorem dX9_extend_75 : decode cX9_extend 75 = .ok (.aload_n 0, 1) := by decide +kernel
theorem dX9_extend_76 : decode cX9_extend 76 = .ok (.getfield 334, 3) := by decide +kernel
theorem dX9_extend_79 : decode cX9_extend 79 = .ok (.if_icmp .ge 19, 3) := by decide +kernel
theorem dX9_extend_82 : decode cX9_extend 82 = .ok (.aload_n 0, 1) := by decide +kernel
theorem dX9_extend_83 : decode cX9_extend 83 = .ok (.aload_n 1, 1) := by decide +kernel
theorem dX9_extend_84 : decode cX9_extend 84 = .ok (.aload_n 2, 1) := by decide +kernel
theorem dX9_extend_85 : decode cX9_extend 85 = .ok (.iload_n 3, 1) := by decide +kernel
theorem dX9_extend_86 : decode cX9_extend 86 = .ok (.iconst 1, 1) := by decide +kernel
theorem dX9_extend_87 : decode cX9_extend 87 = .ok (.iadd, 1) := by decide +kernel
theorem dX9_extend_88 : decode cX9_extend 88 = .ok (.iload 7, 2) := by decide +kernel
theorem dX9_extend_90 : decode cX9_extend 90 = .ok (.iload 8, 2) := by decide +kernel
theorem dX9_extend_92 : decode cX9_extend 92 = .ok (.invokestatic 308, 3) := by decide +kernel
theorem dX9_extend_95 : decode cX9_extend 95 = .ok (.goto 12, 3) := by decide +kernel
theorem dX9_extend_98 : decode cX9_extend 98 = .ok (.aload_n 0, 1) := by decide +kernel
theorem dX9_extend_99 : decode cX9_extend 99 = .ok (.iload_n 3, 1) := by decide +kernel
theorem dX9_extend_100 : decode cX9_extend 100 = .ok (.iconst 1, 1) := by decide +kernel
theorem dX9_extend_101 : decode cX9_extend 101 = .ok (.iadd, 1) := by decide +kernel
theorem dX9_extend_102 : decode cX9_extend 102 = .ok (.iload 8, 2) := by decide +kernel
theorem dX9_extend_104 : decode cX9_extend 104 = .ok (.invokevirtual 337, 3) := by decide +kernel
theorem dX9_extend_107 : decode cX9_extend 107 = .ok (.iinc 6 1, 3) := by decide +kernel
theorem dX9_extend_110 : decode cX9_extend 110 = .ok (.goto (-107), 3) := by decide +kernel
theorem dX9_extend_113 : decode cX9_extend 113 = .ok (.return_, 1) := by decide +kernel
theorem dX9_layers_0 : decode cX9_layers 0 = .ok (.iload_n 1, 1) := by decide +kernel
theorem dX9_layers_1 : decode cX9_layers 1 = .ok (.invokestatic 193, 3) := by decide +kernel
theorem dX9_layers_4 : decode cX9_layers 4 = .ok (.ifCond .ne 5, 3) := by decide +kernel
theorem dX9_layers_7 : decode cX9_layers 7 = .ok (.iconst (-1), 1) := by decide +kernel
theorem dX9_layers_8 : decode cX9_layers 8 = .ok (.ireturn, 1) := by decide +kernel
theorem dX9_layers_9 : decode cX9_layers 9 = .ok (.iconst 0, 1) := by decide +kernel
theorem dX9_layers_10 : decode cX9_layers 10 = .ok (.istore_n 2, 1) := by decide +kernel
theorem dX9_layers_11 : decode cX9_layers 11 = .ok (.iload_n 2, 1) := by decide +kernel
theorem dX9_layers_12 : decode cX9_layers 12 = .ok (.bipush 9, 2) := by decide +kernel
theorem dX9_layers_14 : decode cX9_layers 14 = .ok (.if_icmp .gt 39, 3) := by decide +kernel
theorem dX9_layers_17 : decode cX9_layers 17 = .ok (.aload_n 0, 1) := by decide +kernel
theorem dX9_layers_18 : decode cX9_layers 18 = .ok (.invokevirtual 242, 3) := by decide +kernel
theorem dX9_layers_21 : decode cX9_layers 21 = .ok (.astore_n 3, 1) := by decide +kernel
theorem dX9_layers_22 : decode cX9_layers 22 = .ok (.aload_n 3, 1) := by decide +kernel
theorem dX9_layers_23 : decode cX9_layers 23 = .ok (.getfield 264, 3) := by decide +kernel
theorem dX9_layers_26 : decode cX9_layers 26 = .ok (.getfield 124, 3) := by decide +kernel
theorem dX9_layers_29 : decode cX9_layers 29 = .ok (.iconst 2, 1) := by decide +kernel
theorem dX9_layers_30 : decode cX9_layers 30 = .ok (.iload_n 2, 1) := by decide +kernel
theorem dX9_layers_31 : decode cX9_layers 31 = .ok (.iastore, 1) := by decide +kernel
theorem dX9_layers_32 : decode cX9_layers 32 = .ok (.aload_n 3, 1) := by decide +kernel
theorem dX9_layers_33 : decode cX9_layers 33 = .ok (.aload_n 0, 1) := by decide +kernel
theorem dX9_layers_34 : decode cX9_layers 34 = .ok (.getfield 40, 3) := by decide +kernel
theorem dX9_layers_37 : decode cX9_layers 37 = .ok (.iload_n 1, 1) := by decide +kernel
theorem dX9_layers_38 : decode cX9_layers 38 = .ok (.aaload, 1) := by decide +kernel
theorem dX9_layers_39 : decode cX9_layers 39 = .ok (.invokevirtual 300, 3) := by decide +kernel
theorem dX9_layers_42 : decode cX9_layers 42 = .ok (.ifCond .eq 5, 3) := by decide +kernel
theorem dX9_layers_45 : decode cX9_layers 45 = .ok (.iload_n 2, 1) := by decide +kernel
theorem dX9_layers_46 : decode cX9_layers 46 = .ok (.ireturn, 1) := by decide +kernel
theorem dX9_layers_47 : decode cX9_layers 47 = .ok (.iinc 2 1, 3) := by decide +kernel
theorem dX9_layers_50 : decode cX9_layers 50 = .ok (.goto (-39), 3) := by decide +kernel
theorem dX9_layers_53 : decode cX9_layers 53 = .ok (.bipush (-2), 2) := by decide +kernel
theorem dX9_layers_55 : decode cX9_layers 55 = .ok (.ireturn, 1) := by decide +kernel
theorem dX9_off_0 : decode cX9_off 0 = .ok (.iload_n 1, 1) := by decide +kernel
theorem dX9_off_1 : decode cX9_off 1 = .ok (.iconst 1, 1) := by decide +kernel
theorem dX9_off_2 : decode cX9_off 2 = .ok (.sipush 500, 3) := by decide +kernel
theorem dX9_off_5 : decode cX9_off 5 = .ok (.invokestatic 102, 3) := by decide +kernel
theorem dX9_off_8 : decode cX9_off 8 = .ok (.ifCond .eq 24, 3) := by decide +kernel
theorem dX9_off_11 : decode cX9_off 11 = .ok (.iload_n 2, 1) := by decide +kernel
theorem dX9_off_12 : decode cX9_off 12 = .ok (.iconst 1, 1) := by decide +kernel
theorem dX9_off_13 : decode cX9_off 13 = .ok (.sipush 400, 3) := by decide +kernel
theorem dX9_off_16 : decode cX9_off 16 = .ok (.invokestatic 102, 3) := by decide +kernel
theorem dX9_off_19 : decode cX9_off 19 = .ok (.ifCond .eq 13, 3) := by decide +kernel
theorem dX9_off_22 : decode cX9_off 22 = .ok (.iload_n 3, 1) := by decide +kernel
theorem dX9_off_23 : decode cX9_off 23 = .ok (.iconst 0, 1) := by decide +kernel
theorem dX9_off_24 : decode cX9_off 24 = .ok (.bipush 9, 2) := by decide +kernel
theorem dX9_off_26 : decode cX9_off 26 = .ok (.invokestatic 102, 3) := by decide +kernel
theorem dX9_off_29 : decode cX9_off 29 = .ok (.ifCond .ne 5, 3) := by decide +kernel
theorem dX9_off_32 : decode cX9_off 32 = .ok (.iconst (-1), 1) := by decide +kernel
theorem dX9_off_33 : decode cX9_off 33 = .ok (.ireturn, 1) := by decide +kernel
theorem dX9_off_34 : decode cX9_off 34 = .ok (.aload_n 0, 1) := by decide +kernel
theorem dX9_off_35 : decode cX9_off 35 = .ok (.iload_n 1, 1) := by decide +kernel
theorem dX9_off_36 : decode cX9_off 36 = .ok (.iload_n 2, 1) := by decide +kernel
theorem dX9_off_37 : decode cX9_off 37 = .ok (.iload_n 3, 1) := by decide +kernel
theorem dX9_off_38 : decode cX9_off 38 = .ok (.invokevirtual 340, 3) := by decide +kernel
theorem dX9_off_41 : decode cX9_off 41 = .ok (.istore 4, 2) := by decide +kernel
theorem dX9_off_43 : decode cX9_off 43 = .ok (.aload_n 0, 1) := by decide +kernel
theorem dX9_off_44 : decode cX9_off 44 = .ok (.iload_n 1, 1) := by decide +kernel
theorem dX9_off_45 : decode cX9_off 45 = .ok (.iload_n 2, 1) := by decide +kernel
theorem dX9_off_46 : decode cX9_off 46 = .ok (.iconst 0, 1) := by decide +kernel
theorem dX9_off_47 : decode cX9_off 47 = .ok (.invokevirtual 340, 3) := by decide +kernel
theorem dX9_off_50 : decode cX9_off 50 = .ok (.istore 5, 2) := by decide +kernel
theorem dX9_off_52 : decode cX9_off 52 = .ok (.aload_n 0, 1) := by decide +kernel
theorem dX9_off_53 : decode cX9_off 53 = .ok (.iload 4, 2) := by decide +kernel
theorem dX9_off_55 : decode cX9_off 55 = .ok (.i2l, 1) := by decide +kernel
theorem dX9_off_56 : decode cX9_off 56 = .ok (.iload 5, 2) := by decide +kernel
theorem dX9_off_58 : decode cX9_off 58 = .ok (.i2l, 1) := by decide +kernel
theorem dX9_off_59 : decode cX9_off 59 = .ok (.invokevirtual 250, 3) := by decide +kernel
theorem dX9_off_62 : decode cX9_off 62 = .ok (.aload_n 0, 1) := by decide +kernel
theorem dX9_off_63 : decode cX9_off 63 = .ok (.iload 5, 2) := by decide +kernel
theorem dX9_off_65 : decode cX9_off 65 = .ok (.ifCond .ne 7, 3) := by decide +kernel
theorem dX9_off_68 : decode cX9_off 68 = .ok (.iconst 0, 1) := by decide +kernel
theorem dX9_off_69 : decode cX9_off 69 = .ok (.goto 8, 3) := by decide +kernel
theorem dX9_off_72 : decode cX9_off 72 = .ok (.iload 5, 2) := by decide +kernel
theorem dX9_off_74 : decode cX9_off 74 = .ok (.iload 4, 2) := by decide +kernel
theorem dX9_off_76 : decode cX9_off 76 = .ok (.isub, 1) := by decide +kernel
theorem dX9_off_77 : decode cX9_off 77 = .ok (.iload 5, 2) := by decide +kernel
theorem dX9_off_79 : decode cX9_off 79 = .ok (.invokevirtual 290, 3) := by decide +kernel
theorem dX9_off_82 : decode cX9_off 82 = .ok (.iconst 0, 1) := by decide +kernel
theorem dX9_off_83 : decode cX9_off 83 = .ok (.ireturn, 1) := by decide +kernel
theorem dX9_few_0 : decode cX9_few 0 = .ok (.iload_n 1, 1) := by decide +kernel
theorem dX9_few_1 : decode cX9_few 1 = .ok (.invokestatic 193, 3) := by decide +kernel
theorem dX9_few_4 : decode cX9_few 4 = .ok (.ifCond .eq 13, 3) := by decide +kernel
theorem dX9_few_7 : decode cX9_few 7 = .ok (.iload_n 2, 1) := by decide +kernel
theorem dX9_few_8 : decode cX9_few 8 = .ok (.iconst 0, 1) := by decide +kernel
theorem dX9_few_9 : decode cX9_few 9 = .ok (.bipush 99, 2) := by decide +kernel
theorem dX9_few_11 : decode cX9_few 11 = .ok (.invokestatic 102, 3) := by decide +kernel
theorem dX9_few_14 : decode cX9_few 14 = .ok (.ifCond .ne 5, 3) := by decide +kernel
theorem dX9_few_17 : decode cX9_few 17 = .ok (.iconst (-1), 1) := by decide +kernel
theorem dX9_few_18 : decode cX9_few 18 = .ok (.ireturn, 1) := by decide +kernel
theorem dX9_few_19 : decode cX9_few 19 = .ok (.aload_n 0, 1) := by decide +kernel
theorem dX9_few_20 : decode cX9_few 20 = .ok (.invokevirtual 242, 3) := by decide +kernel
theorem dX9_few_23 : decode cX9_few 23 = .ok (.aload_n 0, 1) := by decide +kernel
theorem dX9_few_24 : decode cX9_few 24 = .ok (.getfield 40, 3) := by decide +kernel
theorem dX9_few_27 : decode cX9_few 27 = .ok (.iload_n 1, 1) := by decide +kernel
theorem dX9_few_28 : decode cX9_few 28 = .ok (.aaload, 1) := by decide +kernel
theorem dX9_few_29 : decode cX9_few 29 = .ok (.invokevirtual 300, 3) := by decide +kernel
theorem dX9_few_32 : decode cX9_few 32 = .ok (.ifCond .eq 10, 3) := by decide +kernel
theorem dX9_few_35 : decode cX9_few 35 = .ok (.aload_n 0, 1) := by decide +kernel
theorem dX9_few_36 : decode cX9_few 36 = .ok (.iconst 0, 1) := by decide +kernel
theorem dX9_few_37 : decode cX9_few 37 = .ok (.putfield 95, 3) := by decide +kernel
theorem dX9_few_40 : decode cX9_few 40 = .ok (.iconst 0, 1) := by decide +kernel
theorem dX9_few_41 : decode cX9_few 41 = .ok (.ireturn, 1) := by decide +kernel
theorem dX9_few_42 : decode cX9_few 42 = .ok (.iconst 0, 1) := by decide +kernel
theorem dX9_few_43 : decode cX9_few 43 = .ok (.istore_n 3, 1) := by decide +kernel
theorem dX9_few_44 : decode cX9_few 44 = .ok (.iload_n 3, 1) := by decide +kernel
theorem dX9_few_45 : decode cX9_few 45 = .ok (.aload_n 0, 1) := by decide +kernel
theorem dX9_few_46 : decode cX9_few 46 = .ok (.getfield 10, 3) := by decide +kernel
theorem dX9_few_49 : decode cX9_few 49 = .ok (.getfield 106, 3) := by decide +kernel
theorem dX9_few_52 : decode cX9_few 52 = .ok (.if_icmp .ge 44, 3) := by decide +kernel
theorem dX9_few_55 : decode cX9_few 55 = .ok (.aload_n 0, 1) := by decide +kernel
theorem dX9_few_56 : decode cX9_few 56 = .ok (.iload_n 3, 1) := by decide +kernel
theorem dX9_few_57 : decode cX9_few 57 = .ok (.invokevirtual 343, 3) := by decide +kernel
theorem dX9_few_60 : decode cX9_few 60 = .ok (.ifCond .eq 30, 3) := by decide +kernel
theorem dX9_few_63 : decode cX9_few 63 = .ok (.aload_n 0, 1) := by decide +kernel
theorem dX9_few_64 : decode cX9_few 64 = .ok (.iload_n 2, 1) := by decide +kernel
theorem dX9_few_65 : decode cX9_few 65 = .ok (.iload_n 3, 1) := by decide +kernel
theorem dX9_few_66 : decode cX9_few 66 = .ok (.iload_n 3, 1) := by decide +kernel
theorem dX9_few_67 : decode cX9_few 67 = .ok (.invokevirtual 346, 3) := by decide +kernel
theorem dX9_few_70 : decode cX9_few 70 = .ok (.aload_n 0, 1) := by decide +kernel
theorem dX9_few_71 : decode cX9_few 71 = .ok (.getfield 40, 3) := by decide +kernel
theorem dX9_few_74 : decode cX9_few 74 = .ok (.iload_n 1, 1) := by decide +kernel
theorem dX9_few_75 : decode cX9_few 75 = .ok (.aaload, 1) := by decide +kernel
theorem dX9_few_76 : decode cX9_few 76 = .ok (.invokevirtual 300, 3) := by decide +kernel
theorem dX9_few_79 : decode cX9_few 79 = .ok (.ifCond .eq 11, 3) := by decide +kernel
theorem dX9_few_82 : decode cX9_few 82 = .ok (.aload_n 0, 1) := by decide +kernel
theorem dX9_few_83 : decode cX9_few 83 = .ok (.iload_n 3, 1) := by decide +kernel
theorem dX9_few_84 : decode cX9_few 84 = .ok (.i2l, 1) := by decide +kernel
theorem dX9_few_85 : decode cX9_few 85 = .ok (.invokevirtual 272, 3) := by decide +kernel
theorem dX9_few_88 : decode cX9_few 88 = .ok (.iconst 1, 1) := by decide +kernel
theorem dX9_few_89 : decode cX9_few 89 = .ok (.ireturn, 1) := by decide +kernel
theorem dX9_few_90 : decode cX9_few 90 = .ok (.iinc 3 1, 3) := by decide +kernel
theorem dX9_few_93 : decode cX9_few 93 = .ok (.goto (-49), 3) := by decide +kernel
theorem dX9_few_96 : decode cX9_few 96 = .ok (.iconst 0, 1) := by decide +kernel
theorem dX9_few_97 : decode cX9_few 97 = .ok (.istore_n 3, 1) := by decide +kernel
theorem dX9_few_98 : decode cX9_few 98 = .ok (.iload_n 3, 1) := by decide +kernel
theorem dX9_few_99 : decode cX9_few 99 = .ok (.aload_n 0, 1) := by decide +kernel
theorem dX9_few_100 : decode cX9_few 100 = .ok (.getfield 10, 3) := by decide +kernel
theorem dX9_few_103 : decode cX9_few 103 = .ok (.getfield 106, 3) := by decide +kernel
theorem dX9_few_106 : decode cX9_few 106 = .ok (.if_icmp .ge 80, 3) := by decide +kernel
theorem dX9_few_109 : decode cX9_few 109 = .ok (.iload_n 3, 1) := by decide +kernel
theorem dX9_few_110 : decode cX9_few 110 = .ok (.iconst 1, 1) := by decide +kernel
theorem dX9_few_111 : decode cX9_few 111 = .ok (.iadd, 1) := by decide +kernel
theorem dX9_few_112 : decode cX9_few 112 = .ok (.istore 4, 2) := by decide +kernel
theorem dX9_few_114 : decode cX9_few 114 = .ok (.iload 4, 2) := by decide +kernel
theorem dX9_few_116 : decode cX9_few 116 = .ok (.aload_n 0, 1) := by decide +kernel
theorem dX9_few_117 : decode cX9_few 117 = .ok (.getfield 10, 3) := by decide +kernel
theorem dX9_few_120 : decode cX9_few 120 = .ok (.getfield 106, 3) := by decide +kernel
theorem dX9_few_123 : decode cX9_few 123 = .ok (.if_icmp .ge 57, 3) := by decide +kernel
theorem dX9_few_126 : decode cX9_few 126 = .ok (.aload_n 0, 1) := by decide +kernel
theorem dX9_few_127 : decode cX9_few 127 = .ok (.iload_n 3, 1) := by decide +kernel
theorem dX9_few_128 : decode cX9_few 128 = .ok (.invokevirtual 343, 3) := by decide +kernel
theorem dX9_few_131 : decode cX9_few 131 = .ok (.ifCond .eq 43, 3) := by decide +kernel
theorem dX9_few_134 : decode cX9_few 134 = .ok (.aload_n 0, 1) := by decide +kernel
theorem dX9_few_135 : decode cX9_few 135 = .ok (.iload 4, 2) := by decide +kernel
theorem dX9_few_137 : decode cX9_few 137 = .ok (.invokevirtual 343, 3) := by decide +kernel
theorem dX9_few_140 : decode cX9_few 140 = .ok (.ifCond .eq 34, 3) := by decide +kernel
theorem dX9_few_143 : decode cX9_few 143 = .ok (.aload_n 0, 1) := by decide +kernel
theorem dX9_few_144 : decode cX9_few 144 = .ok (.iload_n 2, 1) := by decide +kernel
theorem dX9_few_145 : decode cX9_few 145 = .ok (.iload_n 3, 1) := by decide +kernel
theorem dX9_few_146 : decode cX9_few 146 = .ok (.iload 4, 2) := by decide +kernel
theorem dX9_few_148 : decode cX9_few 148 = .ok (.invokevirtual 346, 3) := by decide +kernel
theorem dX9_few_151 : decode cX9_few 151 = .ok (.aload_n 0, 1) := by decide +kernel
theorem dX9_few_152 : decode cX9_few 152 = .ok (.getfield 40, 3) := by decide +kernel
theorem dX9_few_155 : decode cX9_few 155 = .ok (.iload_n 1, 1) := by decide +kernel
theorem dX9_few_156 : decode cX9_few 156 = .ok (.aaload, 1) := by decide +kernel
theorem dX9_few_157 : decode cX9_few 157 = .ok (.invokevirtual 300, 3) := by decide +kernel
theorem dX9_few_160 : decode cX9_few 160 = .ok (.ifCond .eq 14, 3) := by decide +kernel
theorem dX9_few_163 : decode cX9_few 163 = .ok (.aload_n 0, 1) := by decide +kernel
theorem dX9_few_164 : decode cX9_few 164 = .ok (.iload_n 3, 1) := by decide +kernel
theorem dX9_few_165 : decode cX9_few 165 = .ok (.i2l, 1) := by decide +kernel
theorem dX9_few_166 : decode cX9_few 166 = .ok (.iload 4, 2) := by decide +kernel
theorem dX9_few_168 : decode cX9_few 168 = .ok (.i2l, 1) := by decide +kernel
theorem dX9_few_169 : decode cX9_few 169 = .ok (.invokevirtual 250, 3) := by decide +kernel
theorem dX9_few_172 : decode cX9_few 172 = .ok (.iconst 2, 1) := by decide +kernel
theorem dX9_few_173 : decode cX9_few 173 = .ok (.ireturn, 1) := by decide +kernel
theorem dX9_few_174 : decode cX9_few 174 = .ok (.iinc 4 1, 3) := by decide +kernel
theorem dX9_few_177 : decode cX9_few 177 = .ok (.goto (-63), 3) := by decide +kernel
theorem dX9_few_180 : decode cX9_few 180 = .ok (.iinc 3 1, 3) := by decide +kernel
theorem dX9_few_183 : decode cX9_few 183 = .ok (.goto (-85), 3) := by decide +kernel
theorem dX9_few_186 : decode cX9_few 186 = .ok (.bipush (-2), 2) := by decide +kernel
theorem dX9_few_188 : decode cX9_few 188 = .ok (.ireturn, 1) := by decide +kernel
theorem dX9_best_0 : decode cX9_best 0 = .ok (.iload_n 1, 1) := by decide +kernel
theorem dX9_best_1 : decode cX9_best 1 = .ok (.invokestatic 193, 3) := by decide +kernel
theorem dX9_best_4 : decode cX9_best 4 = .ok (.ifCond .eq 11, 3) := by decide +kernel
theorem dX9_best_7 : decode cX9_best 7 = .ok (.aload_n 0, 1) := by decide +kernel
theorem dX9_best_8 : decode cX9_best 8 = .ok (.iload_n 2, 1) := by decide +kernel
theorem dX9_best_9 : decode cX9_best 9 = .ok (.invokevirtual 127, 3) := by decide +kernel
theorem dX9_best_12 : decode cX9_best 12 = .ok (.ifCond .ne 5, 3) := by decide +kernel
theorem dX9_best_15 : decode cX9_best 15 = .ok (.iconst (-1), 1) := by decide +kernel
theorem dX9_best_16 : decode cX9_best 16 = .ok (.ireturn, 1) := by decide +kernel
theorem dX9_best_17 : decode cX9_best 17 = .ok (.iconst (-1), 1) := by decide +kernel
theorem dX9_best_18 : decode cX9_best 18 = .ok (.istore_n 3, 1) := by decide +kernel
theorem dX9_best_19 : decode cX9_best 19 = .ok (.ldc_w 326, 3) := by decide +kernel
theorem dX9_best_22 : decode cX9_best 22 = .ok (.istore 4, 2) := by decide +kernel
theorem dX9_best_24 : decode cX9_best 24 = .ok (.bipush 100, 2) := by decide +kernel
theorem dX9_best_26 : decode cX9_best 26 = .ok (.istore 5, 2) := by decide +kernel
theorem dX9_best_28 : decode cX9_best 28 = .ok (.iload 5, 2) := by decide +kernel
theorem dX9_best_30 : decode cX9_best 30 = .ok (.ifCond .lt 60, 3) := by decide +kernel
theorem dX9_best_33 : decode cX9_best 33 = .ok (.aload_n 0, 1) := by decide +kernel
theorem dX9_best_34 : decode cX9_best 34 = .ok (.invokevirtual 242, 3) := by decide +kernel
theorem dX9_best_37 : decode cX9_best 37 = .ok (.astore 6, 2) := by decide +kernel
theorem dX9_best_39 : decode cX9_best 39 = .ok (.aload 6, 2) := by decide +kernel
theorem dX9_best_41 : decode cX9_best 41 = .ok (.getfield 264, 3) := by decide +kernel
theorem dX9_best_44 : decode cX9_best 44 = .ok (.getfield 131, 3) := by decide +kernel
theorem dX9_best_47 : decode cX9_best 47 = .ok (.iload_n 2, 1) := by decide +kernel
theorem dX9_best_48 : decode cX9_best 48 = .ok (.iload 5, 2) := by decide +kernel
theorem dX9_best_50 : decode cX9_best 50 = .ok (.iastore, 1) := by decide +kernel
theorem dX9_best_51 : decode cX9_best 51 = .ok (.aload 6, 2) := by decide +kernel
theorem dX9_best_53 : decode cX9_best 53 = .ok (.aload_n 0, 1) := by decide +kernel
theorem dX9_best_54 : decode cX9_best 54 = .ok (.getfield 40, 3) := by decide +kernel
theorem dX9_best_57 : decode cX9_best 57 = .ok (.iload_n 1, 1) := by decide +kernel
theorem dX9_best_58 : decode cX9_best 58 = .ok (.aaload, 1) := by decide +kernel
theorem dX9_best_59 : decode cX9_best 59 = .ok (.iconst 1, 1) := by decide +kernel
theorem dX9_best_60 : decode cX9_best 60 = .ok (.invokevirtual 265, 3) := by decide +kernel
theorem dX9_best_63 : decode cX9_best 63 = .ok (.pop, 1) := by decide +kernel
theorem dX9_best_64 : decode cX9_best 64 = .ok (.aload 6, 2) := by decide +kernel
theorem dX9_best_66 : decode cX9_best 66 = .ok (.getfield 281, 3) := by decide +kernel
theorem dX9_best_69 : decode cX9_best 69 = .ok (.iload 4, 2) := by decide +kernel
theorem dX9_best_71 : decode cX9_best 71 = .ok (.if_icmp .ge 13, 3) := by decide +kernel
theorem dX9_best_74 : decode cX9_best 74 = .ok (.aload 6, 2) := by decide +kernel
theorem dX9_best_76 : decode cX9_best 76 = .ok (.getfield 281, 3) := by decide +kernel
theorem dX9_best_79 : decode cX9_best 79 = .ok (.istore 4, 2) := by decide +kernel
theorem dX9_best_81 : decode cX9_best 81 = .ok (.iload 5, 2) := by decide +kernel
theorem dX9_best_83 : decode cX9_best 83 = .ok (.istore_n 3, 1) := by decide +kernel
theorem dX9_best_84 : decode cX9_best 84 = .ok (.iinc 5 (-1), 3) := by decide +kernel
theorem dX9_best_87 : decode cX9_best 87 = .ok (.goto (-59), 3) := by decide +kernel
theorem dX9_best_90 : decode cX9_best 90 = .ok (.aload_n 0, 1) := by decide +kernel
theorem dX9_best_91 : decode cX9_best 91 = .ok (.iload 4, 2) := by decide +kernel
theorem dX9_best_93 : decode cX9_best 93 = .ok (.i2l, 1) := by decide +kernel
theorem dX9_best_94 : decode cX9_best 94 = .ok (.invokevirtual 272, 3) := by decide +kernel
theorem dX9_best_97 : decode cX9_best 97 = .ok (.iload_n 3, 1) := by decide +kernel
theorem dX9_best_98 : decode cX9_best 98 = .ok (.ireturn, 1) := by decide +kernel
theorem dX9_lid_0 : decode cX9_lid 0 = .ok (.iload_n 1, 1) := by decide +kernel
theorem dX9_lid_1 : decode cX9_lid 1 = .ok (.invokestatic 193, 3) := by decide +kernel
theorem dX9_lid_4 : decode cX9_lid 4 = .ok (.ifCond .eq 14, 3) := by decide +kernel
theorem dX9_lid_7 : decode cX9_lid 7 = .ok (.iload_n 2, 1) := by decide +kernel
theorem dX9_lid_8 : decode cX9_lid 8 = .ok (.iconst 0, 1) := by decide +kernel
theorem dX9_lid_9 : decode cX9_lid 9 = .ok (.sipush 9999, 3) := by decide +kernel
theorem dX9_lid_12 : decode cX9_lid 12 = .ok (.invokestatic 102, 3) := by decide +kernel
theorem dX9_lid_15 : decode cX9_lid 15 = .ok (.ifCond .ne 5, 3) := by decide +kernel
theorem dX9_lid_18 : decode cX9_lid 18 = .ok (.iconst (-1), 1) := by decide +kernel
theorem dX9_lid_19 : decode cX9_lid 19 = .ok (.ireturn, 1) := by decide +kernel
theorem dX9_lid_20 : decode cX9_lid 20 = .ok (.iconst 0, 1) := by decide +kernel
theorem dX9_lid_21 : decode cX9_lid 21 = .ok (.istore_n 3, 1) := by decide +kernel
theorem dX9_lid_22 : decode cX9_lid 22 = .ok (.iload_n 3, 1) := by decide +kernel
theorem dX9_lid_23 : decode cX9_lid 23 = .ok (.bipush 100, 2) := by decide +kernel
theorem dX9_lid_25 : decode cX9_lid 25 = .ok (.if_icmp .gt 44, 3) := by decide +kernel
theorem dX9_lid_28 : decode cX9_lid 28 = .ok (.aload_n 0, 1) := by decide +kernel
theorem dX9_lid_29 : decode cX9_lid 29 = .ok (.invokevirtual 242, 3) := by decide +kernel
theorem dX9_lid_32 : decode cX9_lid 32 = .ok (.astore 4, 2) := by decide +kernel
theorem dX9_lid_34 : decode cX9_lid 34 = .ok (.aload 4, 2) := by decide +kernel
theorem dX9_lid_36 : decode cX9_lid 36 = .ok (.getfield 264, 3) := by decide +kernel
theorem dX9_lid_39 : decode cX9_lid 39 = .ok (.getfield 124, 3) := by decide +kernel
theorem dX9_lid_42 : decode cX9_lid 42 = .ok (.iconst 4, 1) := by decide +kernel
theorem dX9_lid_43 : decode cX9_lid 43 = .ok (.iload_n 3, 1) := by decide +kernel
theorem dX9_lid_44 : decode cX9_lid 44 = .ok (.iastore, 1) := by decide +kernel
theorem dX9_lid_45 : decode cX9_lid 45 = .ok (.aload 4, 2) := by decide +kernel
theorem dX9_lid_47 : decode cX9_lid 47 = .ok (.aload_n 0, 1) := by decide +kernel
theorem dX9_lid_48 : decode cX9_lid 48 = .ok (.getfield 40, 3) := by decide +kernel
theorem dX9_lid_51 : decode cX9_lid 51 = .ok (.iload_n 1, 1) := by decide +kernel
theorem dX9_lid_52 : decode cX9_lid 52 = .ok (.aaload, 1) := by decide +kernel
theorem dX9_lid_53 : decode cX9_lid 53 = .ok (.iconst 1, 1) := by decide +kernel
theorem dX9_lid_54 : decode cX9_lid 54 = .ok (.invokevirtual 265, 3) := by decide +kernel
theorem dX9_lid_57 : decode cX9_lid 57 = .ok (.iload_n 2, 1) := by decide +kernel
theorem dX9_lid_58 : decode cX9_lid 58 = .ok (.if_icmp .gt 5, 3) := by decide +kernel
theorem dX9_lid_61 : decode cX9_lid 61 = .ok (.iload_n 3, 1) := by decide +kernel
theorem dX9_lid_62 : decode cX9_lid 62 = .ok (.ireturn, 1) := by decide +kernel
theorem dX9_lid_63 : decode cX9_lid 63 = .ok (.iinc 3 1, 3) := by decide +kernel
theorem dX9_lid_66 : decode cX9_lid 66 = .ok (.goto (-44), 3) := by decide +kernel
theorem dX9_lid_69 : decode cX9_lid 69 = .ok (.bipush (-2), 2) := by decide +kernel
theorem dX9_lid_71 : decode cX9_lid 71 = .ok (.ireturn, 1) := by decide +kernel
theorem dX9_lateSlope_0 : decode cX9_lateSlope 0 = .ok (.aload_n 0, 1) := by decide +kernel
theorem dX9_lateSlope_1 : decode cX9_lateSlope 1 = .ok (.invokevirtual 242, 3) := by decide +kernel
theorem dX9_lateSlope_4 : decode cX9_lateSlope 4 = .ok (.astore 4, 2) := by decide +kernel
theorem dX9_lateSlope_6 : decode cX9_lateSlope 6 = .ok (.aload 4, 2) := by decide +kernel
theorem dX9_lateSlope_8 : decode cX9_lateSlope 8 = .ok (.getfield 264, 3) := by decide +kernel
theorem dX9_lateSlope_11 : decode cX9_lateSlope 11 = .ok (.getfield 124, 3) := by decide +kernel
theorem dX9_lateSlope_14 : decode cX9_lateSlope 14 = .ok (.iconst 2, 1) := by decide +kernel
theorem dX9_lateSlope_15 : decode cX9_lateSlope 15 = .ok (.iload_n 3, 1) := by decide +kernel
theorem dX9_lateSlope_16 : decode cX9_lateSlope 16 = .ok (.iastore, 1) := by decide +kernel
theorem dX9_lateSlope_17 : decode cX9_lateSlope 17 = .ok (.aload 4, 2) := by decide +kernel
theorem dX9_lateSlope_19 : decode cX9_lateSlope 19 = .ok (.iload_n 1, 1) := by decide +kernel
theorem dX9_lateSlope_20 : decode cX9_lateSlope 20 = .ok (.iload_n 2, 1) := by decide +kernel
theorem dX9_lateSlope_21 : decode cX9_lateSlope 21 = .ok (.invokevirtual 246, 3) := by decide +kernel
theorem dX9_lateSlope_24 : decode cX9_lateSlope 24 = .ok (.astore 5, 2) := by decide +kernel
theorem dX9_lateSlope_26 : decode cX9_lateSlope 26 = .ok (.iconst 0, 1) := by decide +kernel
theorem dX9_lateSlope_27 : decode cX9_lateSlope 27 = .ok (.istore 6, 2) := by decide +kernel
theorem dX9_lateSlope_29 : decode cX9_lateSlope 29 = .ok (.iconst 1, 1) := by decide +kernel
theorem dX9_lateSlope_30 : decode cX9_lateSlope 30 = .ok (.iload_n 2, 1) := by decide +kernel
theorem dX9_lateSlope_31 : decode cX9_lateSlope 31 = .ok (.iconst 2, 1) := by decide +kernel
theorem dX9_lateSlope_32 : decode cX9_lateSlope 32 = .ok (.idiv, 1) := by decide +kernel
theorem dX9_lateSlope_33 : decode cX9_lateSlope 33 = .ok (.invokestatic 350, 3) := by decide +kernel
theorem dX9_lateSlope_36 : decode cX9_lateSlope 36 = .ok (.istore 7, 2) := by decide +kernel
theorem dX9_lateSlope_38 : decode cX9_lateSlope 38 = .ok (.iload 7, 2) := by decide +kernel
theorem dX9_lateSlope_40 : decode cX9_lateSlope 40 = .ok (.iload_n 2, 1) := by decide +kernel
theorem dX9_lateSlope_41 : decode cX9_lateSlope 41 = .ok (.if_icmp .gt 32, 3) := by decide +kernel
theorem dX9_lateSlope_44 : decode cX9_lateSlope 44 = .ok (.iload 7, 2) := by decide +kernel
theorem dX9_lateSlope_46 : decode cX9_lateSlope 46 = .ok (.aload 5, 2) := by decide +kernel
theorem dX9_lateSlope_48 : decode cX9_lateSlope 48 = .ok (.arraylength, 1) := by decide +kernel
theorem dX9_lateSlope_49 : decode cX9_lateSlope 49 = .ok (.if_icmp .ge 24, 3) := by decide +kernel
theorem dX9_lateSlope_52 : decode cX9_lateSlope 52 = .ok (.iload 6, 2) := by decide +kernel
theorem dX9_lateSlope_54 : decode cX9_lateSlope 54 = .ok (.aload 5, 2) := by decide +kernel
theorem dX9_lateSlope_56 : decode cX9_lateSlope 56 = .ok (.iload 7, 2) := by decide +kernel
theorem dX9_lateSlope_58 : decode cX9_lateSlope 58 = .ok (.iaload, 1) := by decide +kernel
theorem dX9_lateSlope_59 : decode cX9_lateSlope 59 = .ok (.invokestatic 253, 3) := by decide +kernel
theorem dX9_lateSlope_62 : decode cX9_lateSlope 62 = .ok (.invokestatic 350, 3) := by decide +kernel
theorem dX9_lateSlope_65 : decode cX9_lateSlope 65 = .ok (.istore 6, 2) := by decide +kernel
theorem dX9_lateSlope_67 : decode cX9_lateSlope 67 = .ok (.iinc 7 1, 3) := by decide +kernel
theorem dX9_lateSlope_70 : decode cX9_lateSlope 70 = .ok (.goto (-32), 3) := by decide +kernel
theorem dX9_lateSlope_73 : decode cX9_lateSlope 73 = .ok (.iload 6, 2) := by decide +kernel
theorem dX9_lateSlope_75 : decode cX9_lateSlope 75 = .ok (.ireturn, 1) := by decide +kernel
theorem dX9_isOpen_0 : decode cX9_isOpen 0 = .ok (.aload_n 0, 1) := by decide +kernel
theorem dX9_isOpen_1 : decode cX9_isOpen 1 = .ok (.iload_n 1, 1) := by decide +kernel
theorem dX9_isOpen_2 : decode cX9_isOpen 2 = .ok (.invokevirtual 127, 3) := by decide +kernel
theorem dX9_isOpen_5 : decode cX9_isOpen 5 = .ok (.ifCond .eq 21, 3) := by decide +kernel
theorem dX9_isOpen_8 : decode cX9_isOpen 8 = .ok (.aload_n 0, 1) := by decide +kernel
theorem dX9_isOpen_9 : decode cX9_isOpen 9 = .ok (.getfield 10, 3) := by decide +kernel
theorem dX9_isOpen_12 : decode cX9_isOpen 12 = .ok (.getfield 131, 3) := by decide +kernel
theorem dX9_isOpen_15 : decode cX9_isOpen 15 = .ok (.iload_n 1, 1) := by decide +kernel
theorem dX9_isOpen_16 : decode cX9_isOpen 16 = .ok (.iaload, 1) := by decide +kernel
theorem dX9_isOpen_17 : decode cX9_isOpen 17 = .ok (.bipush 100, 2) := by decide +kernel
theorem dX9_isOpen_19 : decode cX9_isOpen 19 = .ok (.if_icmp .ne 7, 3) := by decide +kernel
theorem dX9_isOpen_22 : decode cX9_isOpen 22 = .ok (.iconst 1, 1) := by decide +kernel
theorem dX9_isOpen_23 : decode cX9_isOpen 23 = .ok (.goto 4, 3) := by decide +kernel
theorem dX9_isOpen_26 : decode cX9_isOpen 26 = .ok (.iconst 0, 1) := by decide +kernel
theorem dX9_isOpen_27 : decode cX9_isOpen 27 = .ok (.ireturn, 1) := by decide +kernel
theorem dX9_walled_0 : decode cX9_walled 0 = .ok (.aload_n 0, 1) := by decide +kernel
theorem dX9_walled_1 : decode cX9_walled 1 = .ok (.invokevirtual 242, 3) := by decide +kernel
theorem dX9_walled_4 : decode cX9_walled 4 = .ok (.astore 4, 2) := by decide +kernel
theorem dX9_walled_6 : decode cX9_walled 6 = .ok (.aload 4, 2) := by decide +kernel
theorem dX9_walled_8 : decode cX9_walled 8 = .ok (.getfield 264, 3) := by decide +kernel
theorem dX9_walled_11 : decode cX9_walled 11 = .ok (.getfield 131, 3) := by decide +kernel
theorem dX9_walled_14 : decode cX9_walled 14 = .ok (.iload_n 2, 1) := by decide +kernel
theorem dX9_walled_15 : decode cX9_walled 15 = .ok (.iload_n 1, 1) := by decide +kernel
theorem dX9_walled_16 : decode cX9_walled 16 = .ok (.iastore, 1) := by decide +kernel
theorem dX9_walled_17 : decode cX9_walled 17 = .ok (.aload 4, 2) := by decide +kernel
theorem dX9_walled_19 : decode cX9_walled 19 = .ok (.getfield 264, 3) := by decide +kernel
theorem dX9_walled_22 : decode cX9_walled 22 = .ok (.getfield 131, 3) := by decide +kernel
theorem dX9_walled_25 : decode cX9_walled 25 = .ok (.iload_n 3, 1) := by decide +kernel
theorem dX9_walled_26 : decode cX9_walled 26 = .ok (.iload_n 1, 1) := by decide +kernel
theorem dX9_walled_27 : decode cX9_walled 27 = .ok (.iastore, 1) := by decide +kernel
theorem dX9_walled_28 : decode cX9_walled 28 = .ok (.aload 4, 2) := by decide +kernel
theorem dX9_walled_30 : decode cX9_walled 30 = .ok (.areturn, 1) := by decide +kernel
theorem dX9_form_0 : decode cX9_form 0 = .ok (.iload_n 1, 1) := by decide +kernel
theorem dX9_form_1 : decode cX9_form 1 = .ok (.iconst 1, 1) := by decide +kernel
theorem dX9_form_2 : decode cX9_form 2 = .ok (.bipush 15, 2) := by decide +kernel
theorem dX9_form_4 : decode cX9_form 4 = .ok (.invokestatic 102, 3) := by decide +kernel
theorem dX9_form_7 : decode cX9_form 7 = .ok (.ifCond .ne 5, 3) := by decide +kernel
theorem dX9_form_10 : decode cX9_form 10 = .ok (.iconst (-1), 1) := by decide +kernel
theorem dX9_form_11 : decode cX9_form 11 = .ok (.ireturn, 1) := by decide +kernel
theorem dX9_form_12 : decode cX9_form 12 = .ok (.iconst 2, 1) := by decide +kernel
theorem dX9_form_13 : decode cX9_form 13 = .ok (.istore_n 2, 1) := by decide +kernel
theorem dX9_form_14 : decode cX9_form 14 = .ok (.iload_n 2, 1) := by decide +kernel
theorem dX9_form_15 : decode cX9_form 15 = .ok (.bipush 20, 2) := by decide +kernel
theorem dX9_form_17 : decode cX9_form 17 = .ok (.if_icmp .gt 91, 3) := by decide +kernel
theorem dX9_form_20 : decode cX9_form 20 = .ok (.aload_n 0, 1) := by decide +kernel
theorem dX9_form_21 : decode cX9_form 21 = .ok (.invokevirtual 242, 3) := by decide +kernel
theorem dX9_form_24 : decode cX9_form 24 = .ok (.astore_n 3, 1) := by decide +kernel
theorem dX9_form_25 : decode cX9_form 25 = .ok (.aload_n 3, 1) := by decide +kernel
theorem dX9_form_26 : decode cX9_form 26 = .ok (.getfield 264, 3) := by decide +kernel
theorem dX9_form_29 : decode cX9_form 29 = .ok (.iload_n 2, 1) := by decide +kernel
theorem dX9_form_30 : decode cX9_form 30 = .ok (.iconst 1, 1) := by decide +kernel
theorem dX9_form_31 : decode cX9_form 31 = .ok (.isub, 1) := by decide +kernel
theorem dX9_form_32 : decode cX9_form 32 = .ok (.putfield 106, 3) := by decide +kernel
theorem dX9_form_35 : decode cX9_form 35 = .ok (.aload_n 3, 1) := by decide +kernel
theorem dX9_form_36 : decode cX9_form 36 = .ok (.getfield 264, 3) := by decide +kernel
theorem dX9_form_39 : decode cX9_form 39 = .ok (.invokevirtual 115, 3) := by decide +kernel
theorem dX9_form_42 : decode cX9_form 42 = .ok (.iconst 1, 1) := by decide +kernel
theorem dX9_form_43 : decode cX9_form 43 = .ok (.istore 4, 2) := by decide +kernel
theorem dX9_form_45 : decode cX9_form 45 = .ok (.iconst 0, 1) := by decide +kernel
theorem dX9_form_46 : decode cX9_form 46 = .ok (.istore 5, 2) := by decide +kernel
theorem dX9_form_48 : decode cX9_form 48 = .ok (.iload 5, 2) := by decide +kernel
theorem dX9_form_50 : decode cX9_form 50 = .ok (.iconst 4, 1) := by decide +kernel
theorem dX9_form_51 : decode cX9_form 51 = .ok (.if_icmp .ge 44, 3) := by decide +kernel
theorem dX9_form_54 : decode cX9_form 54 = .ok (.iload 4, 2) := by decide +kernel
theorem dX9_form_56 : decode cX9_form 56 = .ok (.ifCond .eq 39, 3) := by decide +kernel
theorem dX9_form_59 : decode cX9_form 59 = .ok (.iload_n 1, 1) := by decide +kernel
theorem dX9_form_60 : decode cX9_form 60 = .ok (.iload 5, 2) := by decide +kernel
theorem dX9_form_62 : decode cX9_form 62 = .ok (.ishr, 1) := by decide +kernel
theorem dX9_form_63 : decode cX9_form 63 = .ok (.iconst 1, 1) := by decide +kernel
theorem dX9_form_64 : decode cX9_form 64 = .ok (.iand, 1) := by decide +kernel
theorem dX9_form_65 : decode cX9_form 65 = .ok (.ifCond .eq 17, 3) := by decide +kernel
theorem dX9_form_68 : decode cX9_form 68 = .ok (.aload_n 3, 1) := by decide +kernel
theorem dX9_form_69 : decode cX9_form 69 = .ok (.aload_n 0, 1) := by decide +kernel
theorem dX9_form_70 : decode cX9_form 70 = .ok (.getfield 40, 3) := by decide +kernel
theorem dX9_form_73 : decode cX9_form 73 = .ok (.iload 5, 2) := by decide +kernel
theorem dX9_form_75 : decode cX9_form 75 = .ok (.aaload, 1) := by decide +kernel
theorem dX9_form_76 : decode cX9_form 76 = .ok (.invokevirtual 300, 3) := by decide +kernel
theorem dX9_form_79 : decode cX9_form 79 = .ok (.ifCond .eq 7, 3) := by decide +kernel
theorem dX9_form_82 : decode cX9_form 82 = .ok (.iconst 1, 1) := by decide +kernel
theorem dX9_form_83 : decode cX9_form 83 = .ok (.goto 4, 3) := by decide +kernel
theorem dX9_form_86 : decode cX9_form 86 = .ok (.iconst 0, 1) := by decide +kernel
theorem dX9_form_87 : decode cX9_form 87 = .ok (.istore 4, 2) := by decide +kernel
theorem dX9_form_89 : decode cX9_form 89 = .ok (.iinc 5 1, 3) := by decide +kernel
theorem dX9_form_92 : decode cX9_form 92 = .ok (.goto (-44), 3) := by decide +kernel
theorem dX9_form_95 : decode cX9_form 95 = .ok (.iload 4, 2) := by decide +kernel
theorem dX9_form_97 : decode cX9_form 97 = .ok (.ifCond .eq 5, 3) := by decide +kernel
theorem dX9_form_100 : decode cX9_form 100 = .ok (.iload_n 2, 1) := by decide +kernel
theorem dX9_form_101 : decode cX9_form 101 = .ok (.ireturn, 1) := by decide +kernel
theorem dX9_form_102 : decode cX9_form 102 = .ok (.iinc 2 1, 3) := by decide +kernel
theorem dX9_form_105 : decode cX9_form 105 = .ok (.goto (-91), 3) := by decide +kernel
theorem dX9_form_108 : decode cX9_form 108 = .ok (.bipush (-2), 2) := by decide +kernel
theorem dX9_form_110 : decode cX9_form 110 = .ok (.ireturn, 1) := by decide +kernel
theorem dX9_turn_0 : decode cX9_turn 0 = .ok (.iload_n 1, 1) := by decide +kernel
theorem dX9_turn_1 : decode cX9_turn 1 = .ok (.invokestatic 193, 3) := by decide +kernel
theorem dX9_turn_4 : decode cX9_turn 4 = .ok (.ifCond .eq 14, 3) := by decide +kernel
theorem dX9_turn_7 : decode cX9_turn 7 = .ok (.iload_n 2, 1) := by decide +kernel
theorem dX9_turn_8 : decode cX9_turn 8 = .ok (.iconst 0, 1) := by decide +kernel
theorem dX9_turn_9 : decode cX9_turn 9 = .ok (.sipush 1000, 3) := by decide +kernel
theorem dX9_turn_12 : decode cX9_turn 12 = .ok (.invokestatic 102, 3) := by decide +kernel
theorem dX9_turn_15 : decode cX9_turn 15 = .ok (.ifCond .ne 5, 3) := by decide +kernel
theorem dX9_turn_18 : decode cX9_turn 18 = .ok (.iconst (-1), 1) := by decide +kernel
theorem dX9_turn_19 : decode cX9_turn 19 = .ok (.ireturn, 1) := by decide +kernel
theorem dX9_turn_20 : decode cX9_turn 20 = .ok (.aload_n 0, 1) := by decide +kernel
theorem dX9_turn_21 : decode cX9_turn 21 = .ok (.aload_n 0, 1) := by decide +kernel
theorem dX9_turn_22 : decode cX9_turn 22 = .ok (.invokevirtual 242, 3) := by decide +kernel
theorem dX9_turn_25 : decode cX9_turn 25 = .ok (.aload_n 0, 1) := by decide +kernel
theorem dX9_turn_26 : decode cX9_turn 26 = .ok (.getfield 40, 3) := by decide +kernel
theorem dX9_turn_29 : decode cX9_turn 29 = .ok (.iload_n 1, 1) := by decide +kernel
theorem dX9_turn_30 : decode cX9_turn 30 = .ok (.aaload, 1) := by decide +kernel
theorem dX9_turn_31 : decode cX9_turn 31 = .ok (.iconst 1, 1) := by decide +kernel
theorem dX9_turn_32 : decode cX9_turn 32 = .ok (.invokevirtual 265, 3) := by decide +kernel
theorem dX9_turn_35 : decode cX9_turn 35 = .ok (.i2l, 1) := by decide +kernel
theorem dX9_turn_36 : decode cX9_turn 36 = .ok (.invokevirtual 272, 3) := by decide +kernel
theorem dX9_turn_39 : decode cX9_turn 39 = .ok (.aload_n 0, 1) := by decide +kernel
theorem dX9_turn_40 : decode cX9_turn 40 = .ok (.invokevirtual 242, 3) := by decide +kernel
theorem dX9_turn_43 : decode cX9_turn 43 = .ok (.aload_n 0, 1) := by decide +kernel
theorem dX9_turn_44 : decode cX9_turn 44 = .ok (.getfield 40, 3) := by decide +kernel
theorem dX9_turn_47 : decode cX9_turn 47 = .ok (.iload_n 1, 1) := by decide +kernel
theorem dX9_turn_48 : decode cX9_turn 48 = .ok (.aaload, 1) := by decide +kernel
theorem dX9_turn_49 : decode cX9_turn 49 = .ok (.iload_n 2, 1) := by decide +kernel
theorem dX9_turn_50 : decode cX9_turn 50 = .ok (.invokevirtual 353, 3) := by decide +kernel
theorem dX9_turn_53 : decode cX9_turn 53 = .ok (.ireturn, 1) := by decide +kernel
theorem dX9_door_0 : decode cX9_door 0 = .ok (.iload_n 1, 1) := by decide +kernel
theorem dX9_door_1 : decode cX9_door 1 = .ok (.invokestatic 193, 3) := by decide +kernel
theorem dX9_door_4 : decode cX9_door 4 = .ok (.ifCond .ne 5, 3) := by decide +kernel
theorem dX9_door_7 : decode cX9_door 7 = .ok (.iconst (-1), 1) := by decide +kernel
theorem dX9_door_8 : decode cX9_door 8 = .ok (.ireturn, 1) := by decide +kernel
theorem dX9_door_9 : decode cX9_door 9 = .ok (.iconst (-1), 1) := by decide +kernel
theorem dX9_door_10 : decode cX9_door 10 = .ok (.istore_n 2, 1) := by decide +kernel
theorem dX9_door_11 : decode cX9_door 11 = .ok (.ldc_w 326, 3) := by decide +kernel
theorem dX9_door_14 : decode cX9_door 14 = .ok (.istore_n 3, 1) := by decide +kernel
theorem dX9_door_15 : decode cX9_door 15 = .ok (.aload_n 0, 1) := by decide +kernel
theorem dX9_door_16 : decode cX9_door 16 = .ok (.getfield 40, 3) := by decide +kernel
theorem dX9_door_19 : decode cX9_door 19 = .ok (.iload_n 1, 1) := by decide +kernel
theorem dX9_door_20 : decode cX9_door 20 = .ok (.aaload, 1) := by decide +kernel
theorem dX9_door_21 : decode cX9_door 21 = .ok (.getfield 204, 3) := by decide +kernel
theorem dX9_door_24 : decode cX9_door 24 = .ok (.istore 4, 2) := by decide +kernel
theorem dX9_door_26 : decode cX9_door 26 = .ok (.iconst 0, 1) := by decide +kernel
theorem dX9_door_27 : decode cX9_door 27 = .ok (.istore 5, 2) := by decide +kernel
theorem dX9_door_29 : decode cX9_door 29 = .ok (.iload 5, 2) := by decide +kernel
theorem dX9_door_31 : decode cX9_door 31 = .ok (.iload 4, 2) := by decide +kernel
theorem dX9_door_33 : decode cX9_door 33 = .ok (.bipush 10, 2) := by decide +kernel
theorem dX9_door_35 : decode cX9_door 35 = .ok (.iadd, 1) := by decide +kernel
theorem dX9_door_36 : decode cX9_door 36 = .ok (.if_icmp .ge 47, 3) := by decide +kernel
theorem dX9_door_39 : decode cX9_door 39 = .ok (.iload 5, 2) := by decide +kernel
theorem dX9_door_41 : decode cX9_door 41 = .ok (.iload 4, 2) := by decide +kernel
theorem dX9_door_43 : decode cX9_door 43 = .ok (.invokestatic 233, 3) := by decide +kernel
theorem dX9_door_46 : decode cX9_door 46 = .ok (.istore 6, 2) := by decide +kernel
theorem dX9_door_48 : decode cX9_door 48 = .ok (.aload_n 0, 1) := by decide +kernel
theorem dX9_door_49 : decode cX9_door 49 = .ok (.invokevirtual 242, 3) := by decide +kernel
theorem dX9_door_52 : decode cX9_door 52 = .ok (.aload_n 0, 1) := by decide +kernel
theorem dX9_door_53 : decode cX9_door 53 = .ok (.getfield 40, 3) := by decide +kernel
theorem dX9_door_56 : decode cX9_door 56 = .ok (.iload_n 1, 1) := by decide +kernel
theorem dX9_door_57 : decode cX9_door 57 = .ok (.aaload, 1) := by decide +kernel
theorem dX9_door_58 : decode cX9_door 58 = .ok (.iload 6, 2) := by decide +kernel
theorem dX9_door_60 : decode cX9_door 60 = .ok (.invokevirtual 353, 3) := by decide +kernel
theorem dX9_door_63 : decode cX9_door 63 = .ok (.istore 7, 2) := by decide +kernel
theorem dX9_door_65 : decode cX9_door 65 = .ok (.iload 7, 2) := by decide +kernel
theorem dX9_door_67 : decode cX9_door 67 = .ok (.iload_n 3, 1) := by decide +kernel
theorem dX9_door_68 : decode cX9_door 68 = .ok (.if_icmp .ge 9, 3) := by decide +kernel
theorem dX9_door_71 : decode cX9_door 71 = .ok (.iload 7, 2) := by decide +kernel
theorem dX9_door_73 : decode cX9_door 73 = .ok (.istore_n 3, 1) := by decide +kernel
theorem dX9_door_74 : decode cX9_door 74 = .ok (.iload 6, 2) := by decide +kernel
theorem dX9_door_76 : decode cX9_door 76 = .ok (.istore_n 2, 1) := by decide +kernel
theorem dX9_door_77 : decode cX9_door 77 = .ok (.iinc 5 10, 3) := by decide +kernel
theorem dX9_door_80 : decode cX9_door 80 = .ok (.goto (-51), 3) := by decide +kernel
theorem dX9_door_83 : decode cX9_door 83 = .ok (.aload_n 0, 1) := by decide +kernel
theorem dX9_door_84 : decode cX9_door 84 = .ok (.iload_n 3, 1) := by decide +kernel
theorem dX9_door_85 : decode cX9_door 85 = .ok (.i2l, 1) := by decide +kernel
theorem dX9_door_86 : decode cX9_door 86 = .ok (.invokevirtual 272, 3) := by decide +kernel
theorem dX9_door_89 : decode cX9_door 89 = .ok (.iload_n 2, 1) := by decide +kernel
theorem dX9_door_90 : decode cX9_door 90 = .ok (.ireturn, 1) := by decide +kernel
theorem dX9_two_0 : decode cX9_two 0 = .ok (.iload_n 1, 1) := by decide +kernel
theorem dX9_two_1 : decode cX9_two 1 = .ok (.invokestatic 193, 3) := by decide +kernel
theorem dX9_two_4 : decode cX9_two 4 = .ok (.ifCond .ne 5, 3) := by decide +kernel
theorem dX9_two_7 : decode cX9_two 7 = .ok (.iconst (-1), 1) := by decide +kernel
theorem dX9_two_8 : decode cX9_two 8 = .ok (.ireturn, 1) := by decide +kernel
theorem dX9_two_9 : decode cX9_two 9 = .ok (.aload_n 0, 1) := by decide +kernel
theorem dX9_two_10 : decode cX9_two 10 = .ok (.invokevirtual 242, 3) := by decide +kernel
theorem dX9_two_13 : decode cX9_two 13 = .ok (.aload_n 0, 1) := by decide +kernel
theorem dX9_two_14 : decode cX9_two 14 = .ok (.getfield 40, 3) := by decide +kernel
theorem dX9_two_17 : decode cX9_two 17 = .ok (.iload_n 1, 1) := by decide +kernel
theorem dX9_two_18 : decode cX9_two 18 = .ok (.aaload, 1) := by decide +kernel
theorem dX9_two_19 : decode cX9_two 19 = .ok (.iconst 1, 1) := by decide +kernel
theorem dX9_two_20 : decode cX9_two 20 = .ok (.invokevirtual 265, 3) := by decide +kernel
theorem dX9_two_23 : decode cX9_two 23 = .ok (.istore_n 2, 1) := by decide +kernel
theorem dX9_two_24 : decode cX9_two 24 = .ok (.iconst (-1), 1) := by decide +kernel
theorem dX9_two_25 : decode cX9_two 25 = .ok (.istore_n 3, 1) := by decide +kernel
theorem dX9_two_26 : decode cX9_two 26 = .ok (.ldc_w 326, 3) := by decide +kernel
theorem dX9_two_29 : decode cX9_two 29 = .ok (.istore 4, 2) := by decide +kernel
theorem dX9_two_31 : decode cX9_two 31 = .ok (.iconst 0, 1) := by decide +kernel
theorem dX9_two_32 : decode cX9_two 32 = .ok (.istore 5, 2) := by decide +kernel
theorem dX9_two_34 : decode cX9_two 34 = .ok (.iload 5, 2) := by decide +kernel
theorem dX9_two_36 : decode cX9_two 36 = .ok (.bipush 40, 2) := by decide +kernel
theorem dX9_two_38 : decode cX9_two 38 = .ok (.if_icmp .gt 40, 3) := by decide +kernel
theorem dX9_two_41 : decode cX9_two 41 = .ok (.aload_n 0, 1) := by decide +kernel
theorem dX9_two_42 : decode cX9_two 42 = .ok (.invokevirtual 242, 3) := by decide +kernel
theorem dX9_two_45 : decode cX9_two 45 = .ok (.aload_n 0, 1) := by decide +kernel
theorem dX9_two_46 : decode cX9_two 46 = .ok (.getfield 40, 3) := by decide +kernel
theorem dX9_two_49 : decode cX9_two 49 = .ok (.iload_n 1, 1) := by decide +kernel
theorem dX9_two_50 : decode cX9_two 50 = .ok (.aaload, 1) := by decide +kernel
theorem dX9_two_51 : decode cX9_two 51 = .ok (.iload 5, 2) := by decide +kernel
theorem dX9_two_53 : decode cX9_two 53 = .ok (.invokevirtual 356, 3) := by decide +kernel
theorem dX9_two_56 : decode cX9_two 56 = .ok (.istore 6, 2) := by decide +kernel
theorem dX9_two_58 : decode cX9_two 58 = .ok (.iload 6, 2) := by decide +kernel
theorem dX9_two_60 : decode cX9_two 60 = .ok (.iload 4, 2) := by decide +kernel
theorem dX9_two_62 : decode cX9_two 62 = .ok (.if_icmp .ge 10, 3) := by decide +kernel
theorem dX9_two_65 : decode cX9_two 65 = .ok (.iload 6, 2) := by decide +kernel
theorem dX9_two_67 : decode cX9_two 67 = .ok (.istore 4, 2) := by decide +kernel
theorem dX9_two_69 : decode cX9_two 69 = .ok (.iload 5, 2) := by decide +kernel
theorem dX9_two_71 : decode cX9_two 71 = .ok (.istore_n 3, 1) := by decide +kernel
theorem dX9_two_72 : decode cX9_two 72 = .ok (.iinc 5 1, 3) := by decide +kernel
theorem dX9_two_75 : decode cX9_two 75 = .ok (.goto (-41), 3) := by decide +kernel
theorem dX9_two_78 : decode cX9_two 78 = .ok (.aload_n 0, 1) := by decide +kernel
theorem dX9_two_79 : decode cX9_two 79 = .ok (.iload_n 2, 1) := by decide +kernel
theorem dX9_two_80 : decode cX9_two 80 = .ok (.i2l, 1) := by decide +kernel
theorem dX9_two_81 : decode cX9_two 81 = .ok (.iload 4, 2) := by decide +kernel
theorem dX9_two_83 : decode cX9_two 83 = .ok (.i2l, 1) := by decide +kernel
theorem dX9_two_84 : decode cX9_two 84 = .ok (.invokevirtual 250, 3) := by decide +kernel
theorem dX9_two_87 : decode cX9_two 87 = .ok (.iload_n 3, 1) := by decide +kernel
theorem dX9_two_88 : decode cX9_two 88 = .ok (.ireturn, 1) := by decide +kernel
theorem dX9_stop_0 : decode cX9_stop 0 = .ok (.iload_n 1, 1) := by decide +kernel
theorem dX9_stop_1 : decode cX9_stop 1 = .ok (.iconst 1, 1) := by decide +kernel
theorem dX9_stop_2 : decode cX9_stop 2 = .ok (.sipush 5000, 3) := by decide +kernel
theorem dX9_stop_5 : decode cX9_stop 5 = .ok (.invokestatic 102, 3) := by decide +kernel
theorem dX9_stop_8 : decode cX9_stop 8 = .ok (.ifCond .ne 5, 3) := by decide +kernel
theorem dX9_stop_11 : decode cX9_stop 11 = .ok (.iconst (-1), 1) := by decide +kernel
theorem dX9_stop_12 : decode cX9_stop 12 = .ok (.ireturn, 1) := by decide +kernel
theorem dX9_stop_13 : decode cX9_stop 13 = .ok (.iconst 1, 1) := by decide +kernel
theorem dX9_stop_14 : decode cX9_stop 14 = .ok (.istore_n 2, 1) := by decide +kernel
theorem dX9_stop_15 : decode cX9_stop 15 = .ok (.iload_n 2, 1) := by decide +kernel
theorem dX9_stop_16 : decode cX9_stop 16 = .ok (.sipush 200, 3) := by decide +kernel
theorem dX9_stop_19 : decode cX9_stop 19 = .ok (.if_icmp .gt 63, 3) := by decide +kernel
theorem dX9_stop_22 : decode cX9_stop 22 = .ok (.iload_n 1, 1) := by decide +kernel
theorem dX9_stop_23 : decode cX9_stop 23 = .ok (.iload_n 2, 1) := by decide +kernel
theorem dX9_stop_24 : decode cX9_stop 24 = .ok (.iadd, 1) := by decide +kernel
theorem dX9_stop_25 : decode cX9_stop 25 = .ok (.iconst 1, 1) := by decide +kernel
theorem dX9_stop_26 : decode cX9_stop 26 = .ok (.isub, 1) := by decide +kernel
theorem dX9_stop_27 : decode cX9_stop 27 = .ok (.iload_n 2, 1) := by decide +kernel
theorem dX9_stop_28 : decode cX9_stop 28 = .ok (.idiv, 1) := by decide +kernel
theorem dX9_stop_29 : decode cX9_stop 29 = .ok (.sipush 500, 3) := by decide +kernel
theorem dX9_stop_32 : decode cX9_stop 32 = .ok (.if_icmp .le 6, 3) := by decide +kernel
theorem dX9_stop_35 : decode cX9_stop 35 = .ok (.goto 41, 3) := by decide +kernel
theorem dX9_stop_38 : decode cX9_stop 38 = .ok (.aload_n 0, 1) := by decide +kernel
theorem dX9_stop_39 : decode cX9_stop 39 = .ok (.iload_n 1, 1) := by decide +kernel
theorem dX9_stop_40 : decode cX9_stop 40 = .ok (.iload_n 2, 1) := by decide +kernel
theorem dX9_stop_41 : decode cX9_stop 41 = .ok (.invokevirtual 359, 3) := by decide +kernel
theorem dX9_stop_44 : decode cX9_stop 44 = .ok (.aload_n 0, 1) := by decide +kernel
theorem dX9_stop_45 : decode cX9_stop 45 = .ok (.invokevirtual 242, 3) := by decide +kernel
theorem dX9_stop_48 : decode cX9_stop 48 = .ok (.astore_n 3, 1) := by decide +kernel
theorem dX9_stop_49 : decode cX9_stop 49 = .ok (.aload_n 3, 1) := by decide +kernel
theorem dX9_stop_50 : decode cX9_stop 50 = .ok (.aconst_null, 1) := by decide +kernel
theorem dX9_stop_51 : decode cX9_stop 51 = .ok (.putfield 321, 3) := by decide +kernel
theorem dX9_stop_54 : decode cX9_stop 54 = .ok (.aload_n 3, 1) := by decide +kernel
theorem dX9_stop_55 : decode cX9_stop 55 = .ok (.aload_n 0, 1) := by decide +kernel
theorem dX9_stop_56 : decode cX9_stop 56 = .ok (.getfield 49, 3) := by decide +kernel
theorem dX9_stop_59 : decode cX9_stop 59 = .ok (.invokevirtual 300, 3) := by decide +kernel
theorem dX9_stop_62 : decode cX9_stop 62 = .ok (.ifCond .eq 14, 3) := by decide +kernel
theorem dX9_stop_65 : decode cX9_stop 65 = .ok (.aload_n 0, 1) := by decide +kernel
theorem dX9_stop_66 : decode cX9_stop 66 = .ok (.aload_n 3, 1) := by decide +kernel
theorem dX9_stop_67 : decode cX9_stop 67 = .ok (.getfield 281, 3) := by decide +kernel
theorem dX9_stop_70 : decode cX9_stop 70 = .ok (.i2l, 1) := by decide +kernel
theorem dX9_stop_71 : decode cX9_stop 71 = .ok (.invokevirtual 272, 3) := by decide +kernel
theorem dX9_stop_74 : decode cX9_stop 74 = .ok (.iload_n 2, 1) := by decide +kernel
theorem dX9_stop_75 : decode cX9_stop 75 = .ok (.ireturn, 1) := by decide +kernel
theorem dX9_stop_76 : decode cX9_stop 76 = .ok (.iinc 2 1, 3) := by decide +kernel
theorem dX9_stop_79 : decode cX9_stop 79 = .ok (.goto (-64), 3) := by decide +kernel
theorem dX9_stop_82 : decode cX9_stop 82 = .ok (.bipush (-2), 2) := by decide +kernel
theorem dX9_stop_84 : decode cX9_stop 84 = .ok (.ireturn, 1) := by decide +kernel
theorem dX9_pause_0 : decode cX9_pause 0 = .ok (.iload_n 1, 1) := by decide +kernel
theorem dX9_pause_1 : decode cX9_pause 1 = .ok (.invokestatic 193, 3) := by decide +kernel
theorem dX9_pause_4 : decode cX9_pause 4 = .ok (.ifCond .eq 14, 3) := by decide +kernel
theorem dX9_pause_7 : decode cX9_pause 7 = .ok (.iload_n 2, 1) := by decide +kernel
theorem dX9_pause_8 : decode cX9_pause 8 = .ok (.iconst 0, 1) := by decide +kernel
theorem dX9_pause_9 : decode cX9_pause 9 = .ok (.sipush 1000, 3) := by decide +kernel
theorem dX9_pause_12 : decode cX9_pause 12 = .ok (.invokestatic 102, 3) := by decide +kernel
theorem dX9_pause_15 : decode cX9_pause 15 = .ok (.ifCond .ne 5, 3) := by decide +kernel
theorem dX9_pause_18 : decode cX9_pause 18 = .ok (.iconst (-1), 1) := by decide +kernel
theorem dX9_pause_19 : decode cX9_pause 19 = .ok (.ireturn, 1) := by decide +kernel
theorem dX9_pause_20 : decode cX9_pause 20 = .ok (.iconst (-1), 1) := by decide +kernel
theorem dX9_pause_21 : decode cX9_pause 21 = .ok (.istore_n 3, 1) := by decide +kernel
theorem dX9_pause_22 : decode cX9_pause 22 = .ok (.ldc_w 326, 3) := by decide +kernel
theorem dX9_pause_25 : decode cX9_pause 25 = .ok (.istore 4, 2) := by decide +kernel
theorem dX9_pause_27 : decode cX9_pause 27 = .ok (.iconst 0, 1) := by decide +kernel
theorem dX9_pause_28 : decode cX9_pause 28 = .ok (.istore 5, 2) := by decide +kernel
theorem dX9_pause_30 : decode cX9_pause 30 = .ok (.iload 5, 2) := by decide +kernel
theorem dX9_pause_32 : decode cX9_pause 32 = .ok (.bipush 40, 2) := by decide +kernel
theorem dX9_pause_34 : decode cX9_pause 34 = .ok (.if_icmp .gt 41, 3) := by decide +kernel
theorem dX9_pause_37 : decode cX9_pause 37 = .ok (.aload_n 0, 1) := by decide +kernel
theorem dX9_pause_38 : decode cX9_pause 38 = .ok (.invokevirtual 242, 3) := by decide +kernel
theorem dX9_pause_41 : decode cX9_pause 41 = .ok (.aload_n 0, 1) := by decide +kernel
theorem dX9_pause_42 : decode cX9_pause 42 = .ok (.getfield 40, 3) := by decide +kernel
theorem dX9_pause_45 : decode cX9_pause 45 = .ok (.iload_n 1, 1) := by decide +kernel
theorem dX9_pause_46 : decode cX9_pause 46 = .ok (.aaload, 1) := by decide +kernel
theorem dX9_pause_47 : decode cX9_pause 47 = .ok (.iload_n 2, 1) := by decide +kernel
theorem dX9_pause_48 : decode cX9_pause 48 = .ok (.iload 5, 2) := by decide +kernel
theorem dX9_pause_50 : decode cX9_pause 50 = .ok (.invokevirtual 362, 3) := by decide +kernel
theorem dX9_pause_53 : decode cX9_pause 53 = .ok (.istore 6, 2) := by decide +kernel
theorem dX9_pause_55 : decode cX9_pause 55 = .ok (.iload 6, 2) := by decide +kernel
theorem dX9_pause_57 : decode cX9_pause 57 = .ok (.iload 4, 2) := by decide +kernel
theorem dX9_pause_59 : decode cX9_pause 59 = .ok (.if_icmp .ge 10, 3) := by decide +kernel
theorem dX9_pause_62 : decode cX9_pause 62 = .ok (.iload 6, 2) := by decide +kernel
theorem dX9_pause_64 : decode cX9_pause 64 = .ok (.istore 4, 2) := by decide +kernel
theorem dX9_pause_66 : decode cX9_pause 66 = .ok (.iload 5, 2) := by decide +kernel
theorem dX9_pause_68 : decode cX9_pause 68 = .ok (.istore_n 3, 1) := by decide +kernel
theorem dX9_pause_69 : decode cX9_pause 69 = .ok (.iinc 5 1, 3) := by decide +kernel
theorem dX9_pause_72 : decode cX9_pause 72 = .ok (.goto (-42), 3) := by decide +kernel
theorem dX9_pause_75 : decode cX9_pause 75 = .ok (.aload_n 0, 1) := by decide +kernel
theorem dX9_pause_76 : decode cX9_pause 76 = .ok (.iload 4, 2) := by decide +kernel
theorem dX9_pause_78 : decode cX9_pause 78 = .ok (.i2l, 1) := by decide +kernel
theorem dX9_pause_79 : decode cX9_pause 79 = .ok (.invokevirtual 272, 3) := by decide +kernel
theorem dX9_pause_82 : decode cX9_pause 82 = .ok (.iload_n 3, 1) := by decide +kernel
theorem dX9_pause_83 : decode cX9_pause 83 = .ok (.ireturn, 1) := by decide +kernel
theorem dX9_stir_0 : decode cX9_stir 0 = .ok (.iload_n 1, 1) := by decide +kernel
theorem dX9_stir_1 : decode cX9_stir 1 = .ok (.invokestatic 145, 3) := by decide +kernel
theorem dX9_stir_4 : decode cX9_stir 4 = .ok (.ifCond .eq 21, 3) := by decide +kernel
theorem dX9_stir_7 : decode cX9_stir 7 = .ok (.aload_n 0, 1) := by decide +kernel
theorem dX9_stir_8 : decode cX9_stir 8 = .ok (.getfield 19, 3) := by decide +kernel
theorem dX9_stir_11 : decode cX9_stir 11 = .ok (.iload_n 1, 1) := by decide +kernel
theorem dX9_stir_12 : decode cX9_stir 12 = .ok (.invokevirtual 148, 3) := by decide +kernel
theorem dX9_stir_15 : decode cX9_stir 15 = .ok (.aload_n 0, 1) := by decide +kernel
theorem dX9_stir_16 : decode cX9_stir 16 = .ok (.getfield 10, 3) := by decide +kernel
theorem dX9_stir_19 : decode cX9_stir 19 = .ok (.invokevirtual 366, 3) := by decide +kernel
theorem dX9_stir_22 : decode cX9_stir 22 = .ok (.goto 6, 3) := by decide +kernel
theorem dX9_stir_25 : decode cX9_stir 25 = .ok (.ldc2_w 370, 3) := by decide +kernel
theorem dX9_stir_28 : decode cX9_stir 28 = .ok (.lreturn, 1) := by decide +kernel
theorem dX9_brake_0 : decode cX9_brake 0 = .ok (.aload_n 0, 1) := by decide +kernel
theorem dX9_brake_1 : decode cX9_brake 1 = .ok (.getfield 49, 3) := by decide +kernel
theorem dX9_brake_4 : decode cX9_brake 4 = .ok (.invokevirtual 257, 3) := by decide +kernel
theorem dX9_brake_7 : decode cX9_brake 7 = .ok (.iconst 0, 1) := by decide +kernel
theorem dX9_brake_8 : decode cX9_brake 8 = .ok (.istore_n 3, 1) := by decide +kernel
theorem dX9_brake_9 : decode cX9_brake 9 = .ok (.iload_n 3, 1) := by decide +kernel
theorem dX9_brake_10 : decode cX9_brake 10 = .ok (.iload_n 2, 1) := by decide +kernel
theorem dX9_brake_11 : decode cX9_brake 11 = .ok (.if_icmp .ge 34, 3) := by decide +kernel
theorem dX9_brake_14 : decode cX9_brake 14 = .ok (.aload_n 0, 1) := by decide +kernel
theorem dX9_brake_15 : decode cX9_brake 15 = .ok (.getfield 49, 3) := by decide +kernel
theorem dX9_brake_18 : decode cX9_brake 18 = .ok (.iload_n 1, 1) := by decide +kernel
theorem dX9_brake_19 : decode cX9_brake 19 = .ok (.iload_n 2, 1) := by decide +kernel
theorem dX9_brake_20 : decode cX9_brake 20 = .ok (.idiv, 1) := by decide +kernel
theorem dX9_brake_21 : decode cX9_brake 21 = .ok (.iload_n 3, 1) := by decide +kernel
theorem dX9_brake_22 : decode cX9_brake 22 = .ok (.iload_n 1, 1) := by decide +kernel
theorem dX9_brake_23 : decode cX9_brake 23 = .ok (.iload_n 2, 1) := by decide +kernel
theorem dX9_brake_24 : decode cX9_brake 24 = .ok (.irem, 1) := by decide +kernel
theorem dX9_brake_25 : decode cX9_brake 25 = .ok (.if_icmp .ge 7, 3) := by decide +kernel
theorem dX9_brake_28 : decode cX9_brake 28 = .ok (.iconst 1, 1) := by decide +kernel
theorem dX9_brake_29 : decode cX9_brake 29 = .ok (.goto 4, 3) := by decide +kernel
theorem dX9_brake_32 : decode cX9_brake 32 = .ok (.iconst 0, 1) := by decide +kernel
theorem dX9_brake_33 : decode cX9_brake 33 = .ok (.iadd, 1) := by decide +kernel
theorem dX9_brake_34 : decode cX9_brake 34 = .ok (.iconst 0, 1) := by decide +kernel
theorem dX9_brake_35 : decode cX9_brake 35 = .ok (.iconst (-1), 1) := by decide +kernel
theorem dX9_brake_36 : decode cX9_brake 36 = .ok (.invokevirtual 372, 3) := by decide +kernel
theorem dX9_brake_39 : decode cX9_brake 39 = .ok (.iinc 3 1, 3) := by decide +kernel
theorem dX9_brake_42 : decode cX9_brake 42 = .ok (.goto (-33), 3) := by decide +kernel
theorem dX9_brake_45 : decode cX9_brake 45 = .ok (.iconst 0, 1) := by decide +kernel
theorem dX9_brake_46 : decode cX9_brake 46 = .ok (.istore_n 3, 1) := by decide +kernel
theorem dX9_brake_47 : decode cX9_brake 47 = .ok (.iload_n 3, 1) := by decide +kernel
theorem dX9_brake_48 : decode cX9_brake 48 = .ok (.bipush 100, 2) := by decide +kernel
theorem dX9_brake_50 : decode cX9_brake 50 = .ok (.if_icmp .ge 19, 3) := by decide +kernel
theorem dX9_brake_53 : decode cX9_brake 53 = .ok (.aload_n 0, 1) := by decide +kernel
theorem dX9_brake_54 : decode cX9_brake 54 = .ok (.getfield 49, 3) := by decide +kernel
theorem dX9_brake_57 : decode cX9_brake 57 = .ok (.iconst 0, 1) := by decide +kernel
theorem dX9_brake_58 : decode cX9_brake 58 = .ok (.iconst 0, 1) := by decide +kernel
theorem dX9_brake_59 : decode cX9_brake 59 = .ok (.iconst (-1), 1) := by decide +kernel
theorem dX9_brake_60 : decode cX9_brake 60 = .ok (.invokevirtual 372, 3) := by decide +kernel
theorem dX9_brake_63 : decode cX9_brake 63 = .ok (.iinc 3 1, 3) := by decide +kernel
theorem dX9_brake_66 : decode cX9_brake 66 = .ok (.goto (-19), 3) := by decide +kernel
theorem dX9_brake_69 : decode cX9_brake 69 = .ok (.return_, 1) := by decide +kernel
theorem dX9_spot_0 : decode cX9_spot 0 = .ok (.iload_n 1, 1) := by decide +kernel
theorem dX9_spot_1 : decode cX9_spot 1 = .ok (.iconst 0, 1) := by decide +kernel
theorem dX9_spot_2 : decode cX9_spot 2 = .ok (.sipush 1000, 3) := by decide +kernel
theorem dX9_spot_5 : decode cX9_spot 5 = .ok (.invokestatic 102, 3) := by decide +kernel
theorem dX9_spot_8 : decode cX9_spot 8 = .ok (.ifCond .eq 12, 3) := by decide +kernel
theorem dX9_spot_11 : decode cX9_spot 11 = .ok (.aload_n 0, 1) := by decide +kernel
theorem dX9_spot_12 : decode cX9_spot 12 = .ok (.getfield 81, 3) := by decide +kernel
theorem dX9_spot_15 : decode cX9_spot 15 = .ok (.bipush 12, 2) := by decide +kernel
theorem dX9_spot_17 : decode cX9_spot 17 = .ok (.if_icmp .lt 5, 3) := by decide +kernel
theorem dX9_spot_20 : decode cX9_spot 20 = .ok (.iconst (-1), 1) := by decide +kernel
theorem dX9_spot_21 : decode cX9_spot 21 = .ok (.ireturn, 1) := by decide +kernel
theorem dX9_spot_22 : decode cX9_spot 22 = .ok (.aload_n 0, 1) := by decide +kernel
theorem dX9_spot_23 : decode cX9_spot 23 = .ok (.getfield 78, 3) := by decide +kernel
theorem dX9_spot_26 : decode cX9_spot 26 = .ok (.aload_n 0, 1) := by decide +kernel
theorem dX9_spot_27 : decode cX9_spot 27 = .ok (.getfield 81, 3) := by decide +kernel
theorem dX9_spot_30 : decode cX9_spot 30 = .ok (.iload_n 1, 1) := by decide +kernel
theorem dX9_spot_31 : decode cX9_spot 31 = .ok (.iastore, 1) := by decide +kernel
theorem dX9_spot_32 : decode cX9_spot 32 = .ok (.aload_n 0, 1) := by decide +kernel
theorem dX9_spot_33 : decode cX9_spot 33 = .ok (.dup, 1) := by decide +kernel
theorem dX9_spot_34 : decode cX9_spot 34 = .ok (.getfield 81, 3) := by decide +kernel
theorem dX9_spot_37 : decode cX9_spot 37 = .ok (.iconst 1, 1) := by decide +kernel
theorem dX9_spot_38 : decode cX9_spot 38 = .ok (.iadd, 1) := by decide +kernel
theorem dX9_spot_39 : decode cX9_spot 39 = .ok (.putfield 81, 3) := by decide +kernel
theorem dX9_spot_42 : decode cX9_spot 42 = .ok (.aload_n 0, 1) := by decide +kernel
theorem dX9_spot_43 : decode cX9_spot 43 = .ok (.getfield 81, 3) := by decide +kernel
theorem dX9_spot_46 : decode cX9_spot 46 = .ok (.ireturn, 1) := by decide +kernel
theorem dX9_wipe_0 : decode cX9_wipe 0 = .ok (.aload_n 0, 1) := by decide +kernel
theorem dX9_wipe_1 : decode cX9_wipe 1 = .ok (.getfield 81, 3) := by decide +kernel
theorem dX9_wipe_4 : decode cX9_wipe 4 = .ok (.istore_n 1, 1) := by decide +kernel
theorem dX9_wipe_5 : decode cX9_wipe 5 = .ok (.aload_n 0, 1) := by decide +kernel
theorem dX9_wipe_6 : decode cX9_wipe 6 = .ok (.iconst 0, 1) := by decide +kernel
theorem dX9_wipe_7 : decode cX9_wipe 7 = .ok (.putfield 81, 3) := by decide +kernel
theorem dX9_wipe_10 : decode cX9_wipe 10 = .ok (.iload_n 1, 1) := by decide +kernel
theorem dX9_wipe_11 : decode cX9_wipe 11 = .ok (.ireturn, 1) := by decide +kernel
theorem dX9_far_0 : decode cX9_far 0 = .ok (.iload_n 1, 1) := by decide +kernel
theorem dX9_far_1 : decode cX9_far 1 = .ok (.invokestatic 193, 3) := by decide +kernel
theorem dX9_far_4 : decode cX9_far 4 = .ok (.ifCond .eq 11, 3) := by decide +kernel
theorem dX9_far_7 : decode cX9_far 7 = .ok (.aload_n 0, 1) := by decide +kernel
theorem dX9_far_8 : decode cX9_far 8 = .ok (.iload_n 2, 1) := by decide +kernel
theorem dX9_far_9 : decode cX9_far 9 = .ok (.invokevirtual 376, 3) := by decide +kernel
theorem dX9_far_12 : decode cX9_far 12 = .ok (.ifCond .ne 5, 3) := by decide +kernel
theorem dX9_far_15 : decode cX9_far 15 = .ok (.iconst (-1), 1) := by decide +kernel
theorem dX9_far_16 : decode cX9_far 16 = .ok (.ireturn, 1) := by decide +kernel
theorem dX9_far_17 : decode cX9_far 17 = .ok (.aload_n 0, 1) := by decide +kernel
theorem dX9_far_18 : decode cX9_far 18 = .ok (.invokevirtual 242, 3) := by decide +kernel
theorem dX9_far_21 : decode cX9_far 21 = .ok (.astore_n 3, 1) := by decide +kernel
theorem dX9_far_22 : decode cX9_far 22 = .ok (.aload_n 3, 1) := by decide +kernel
theorem dX9_far_23 : decode cX9_far 23 = .ok (.aload_n 0, 1) := by decide +kernel
theorem dX9_far_24 : decode cX9_far 24 = .ok (.iload_n 2, 1) := by decide +kernel
theorem dX9_far_25 : decode cX9_far 25 = .ok (.invokevirtual 208, 3) := by decide +kernel
theorem dX9_far_28 : decode cX9_far 28 = .ok (.putfield 321, 3) := by decide +kernel
theorem dX9_far_31 : decode cX9_far 31 = .ok (.aload_n 3, 1) := by decide +kernel
theorem dX9_far_32 : decode cX9_far 32 = .ok (.aload_n 0, 1) := by decide +kernel
theorem dX9_far_33 : decode cX9_far 33 = .ok (.getfield 40, 3) := by decide +kernel
theorem dX9_far_36 : decode cX9_far 36 = .ok (.iload_n 1, 1) := by decide +kernel
theorem dX9_far_37 : decode cX9_far 37 = .ok (.aaload, 1) := by decide +kernel
theorem dX9_far_38 : decode cX9_far 38 = .ok (.iconst 1, 1) := by decide +kernel
theorem dX9_far_39 : decode cX9_far 39 = .ok (.invokevirtual 265, 3) := by decide +kernel
theorem dX9_far_42 : decode cX9_far 42 = .ok (.pop, 1) := by decide +kernel
theorem dX9_far_43 : decode cX9_far 43 = .ok (.aload_n 0, 1) := by decide +kernel
theorem dX9_far_44 : decode cX9_far 44 = .ok (.aload_n 3, 1) := by decide +kernel
theorem dX9_far_45 : decode cX9_far 45 = .ok (.invokevirtual 379, 3) := by decide +kernel
theorem dX9_far_48 : decode cX9_far 48 = .ok (.ireturn, 1) := by decide +kernel
theorem dX9_who_0 : decode cX9_who 0 = .ok (.ldc_w 326, 3) := by decide +kernel
theorem dX9_who_3 : decode cX9_who 3 = .ok (.istore_n 1, 1) := by decide +kernel
theorem dX9_who_4 : decode cX9_who 4 = .ok (.iconst (-1), 1) := by decide +kernel
theorem dX9_who_5 : decode cX9_who 5 = .ok (.istore_n 2, 1) := by decide +kernel
theorem dX9_who_6 : decode cX9_who 6 = .ok (.iconst (-1), 1) := by decide +kernel
theorem dX9_who_7 : decode cX9_who 7 = .ok (.istore_n 3, 1) := by decide +kernel
theorem dX9_who_8 : decode cX9_who 8 = .ok (.iconst 0, 1) := by decide +kernel
theorem dX9_who_9 : decode cX9_who 9 = .ok (.istore 4, 2) := by decide +kernel
theorem dX9_who_11 : decode cX9_who 11 = .ok (.iconst 0, 1) := by decide +kernel
theorem dX9_who_12 : decode cX9_who 12 = .ok (.istore 5, 2) := by decide +kernel
theorem dX9_who_14 : decode cX9_who 14 = .ok (.iload 5, 2) := by decide +kernel
theorem dX9_who_16 : decode cX9_who 16 = .ok (.iconst 4, 1) := by decide +kernel
theorem dX9_who_17 : decode cX9_who 17 = .ok (.if_icmp .ge 122, 3) := by decide +kernel
theorem dX9_who_20 : decode cX9_who 20 = .ok (.iconst 0, 1) := by decide +kernel
theorem dX9_who_21 : decode cX9_who 21 = .ok (.istore 6, 2) := by decide +kernel
theorem dX9_who_23 : decode cX9_who 23 = .ok (.iload 6, 2) := by decide +kernel
theorem dX9_who_25 : decode cX9_who 25 = .ok (.iconst 3, 1) := by decide +kernel
theorem dX9_who_26 : decode cX9_who 26 = .ok (.if_icmp .gt 107, 3) := by decide +kernel
theorem dX9_who_29 : decode cX9_who 29 = .ok (.aload_n 0, 1) := by decide +kernel
theorem dX9_who_30 : decode cX9_who 30 = .ok (.getfield 40, 3) := by decide +kernel
theorem dX9_who_33 : decode cX9_who 33 = .ok (.iload 5, 2) := by decide +kernel
theorem dX9_who_35 : decode cX9_who 35 = .ok (.aaload, 1) := by decide +kernel
theorem dX9_who_36 : decode cX9_who 36 = .ok (.getfield 204, 3) := by decide +kernel
theorem dX9_who_39 : decode cX9_who 39 = .ok (.ifCond .eq 88, 3) := by decide +kernel
theorem dX9_who_42 : decode cX9_who 42 = .ok (.aload_n 0, 1) := by decide +kernel
theorem dX9_who_43 : decode cX9_who 43 = .ok (.iload 6, 2) := by decide +kernel
theorem dX9_who_45 : decode cX9_who 45 = .ok (.invokevirtual 376, 3) := by decide +kernel
theorem dX9_who_48 : decode cX9_who 48 = .ok (.ifCond .ne 6, 3) := by decide +kernel
theorem dX9_who_51 : decode cX9_who 51 = .ok (.goto 76, 3) := by decide +kernel
theorem dX9_who_54 : decode cX9_who 54 = .ok (.aload_n 0, 1) := by decide +kernel
theorem dX9_who_55 : decode cX9_who 55 = .ok (.invokevirtual 242, 3) := by decide +kernel
theorem dX9_who_58 : decode cX9_who 58 = .ok (.astore 7, 2) := by decide +kernel
theorem dX9_who_60 : decode cX9_who 60 = .ok (.aload 7, 2) := by decide +kernel
theorem dX9_who_62 : decode cX9_who 62 = .ok (.aload_n 0, 1) := by decide +kernel
theorem dX9_who_63 : decode cX9_who 63 = .ok (.iload 6, 2) := by decide +kernel
theorem dX9_who_65 : decode cX9_who 65 = .ok (.invokevirtual 208, 3) := by decide +kernel
theorem dX9_who_68 : decode cX9_who 68 = .ok (.putfield 321, 3) := by decide +kernel
theorem dX9_who_71 : decode cX9_who 71 = .ok (.aload 7, 2) := by decide +kernel
theorem dX9_who_73 : decode cX9_who 73 = .ok (.aload_n 0, 1) := by decide +kernel
theorem dX9_who_74 : decode cX9_who 74 = .ok (.getfield 40, 3) := by decide +kernel
theorem dX9_who_77 : decode cX9_who 77 = .ok (.iload 5, 2) := by decide +kernel
theorem dX9_who_79 : decode cX9_who 79 = .ok (.aaload, 1) := by decide +kernel
theorem dX9_who_80 : decode cX9_who 80 = .ok (.iconst 1, 1) := by decide +kernel
theorem dX9_who_81 : decode cX9_who 81 = .ok (.invokevirtual 265, 3) := by decide +kernel
theorem dX9_who_84 : decode cX9_who 84 = .ok (.pop, 1) := by decide +kernel
theorem dX9_who_85 : decode cX9_who 85 = .ok (.aload_n 0, 1) := by decide +kernel
theorem dX9_who_86 : decode cX9_who 86 = .ok (.aload 7, 2) := by decide +kernel
theorem dX9_who_88 : decode cX9_who 88 = .ok (.invokevirtual 379, 3) := by decide +kernel
theorem dX9_who_91 : decode cX9_who 91 = .ok (.istore 8, 2) := by decide +kernel
theorem dX9_who_93 : decode cX9_who 93 = .ok (.iload 8, 2) := by decide +kernel
theorem dX9_who_95 : decode cX9_who 95 = .ok (.iload_n 1, 1) := by decide +kernel
theorem dX9_who_96 : decode cX9_who 96 = .ok (.if_icmp .ge 15, 3) := by decide +kernel
theorem dX9_who_99 : decode cX9_who 99 = .ok (.iload 8, 2) := by decide +kernel
theorem dX9_who_101 : decode cX9_who 101 = .ok (.istore_n 1, 1) := by decide +kernel
theorem dX9_who_102 : decode cX9_who 102 = .ok (.iload 5, 2) := by decide +kernel
theorem dX9_who_104 : decode cX9_who 104 = .ok (.istore_n 2, 1) := by decide +kernel
theorem dX9_who_105 : decode cX9_who 105 = .ok (.iload 6, 2) := by decide +kernel
theorem dX9_who_107 : decode cX9_who 107 = .ok (.istore_n 3, 1) := by decide +kernel
theorem dX9_who_108 : decode cX9_who 108 = .ok (.iconst 0, 1) := by decide +kernel
theorem dX9_who_109 : decode cX9_who 109 = .ok (.istore 4, 2) := by decide +kernel
theorem dX9_who_111 : decode cX9_who 111 = .ok (.iload 4, 2) := by decide +kernel
theorem dX9_who_113 : decode cX9_who 113 = .ok (.iload 8, 2) := by decide +kernel
theorem dX9_who_115 : decode cX9_who 115 = .ok (.iload_n 1, 1) := by decide +kernel
theorem dX9_who_116 : decode cX9_who 116 = .ok (.if_icmp .ne 7, 3) := by decide +kernel
theorem dX9_who_119 : decode cX9_who 119 = .ok (.iconst 1, 1) := by decide +kernel
theorem dX9_who_120 : decode cX9_who 120 = .ok (.goto 4, 3) := by decide +kernel
theorem dX9_who_123 : decode cX9_who 123 = .ok (.iconst 0, 1) := by decide +kernel
theorem dX9_who_124 : decode cX9_who 124 = .ok (.iadd, 1) := by decide +kernel
theorem dX9_who_125 : decode cX9_who 125 = .ok (.istore 4, 2) := by decide +kernel
theorem dX9_who_127 : decode cX9_who 127 = .ok (.iinc 6 1, 3) := by decide +kernel
theorem dX9_who_130 : decode cX9_who 130 = .ok (.goto (-107), 3) := by decide +kernel
theorem dX9_who_133 : decode cX9_who 133 = .ok (.iinc 5 1, 3) := by decide +kernel
theorem dX9_who_136 : decode cX9_who 136 = .ok (.goto (-122), 3) := by decide +kernel
theorem dX9_who_139 : decode cX9_who 139 = .ok (.iload_n 2, 1) := by decide +kernel
theorem dX9_who_140 : decode cX9_who 140 = .ok (.iconst (-1), 1) := by decide +kernel
theorem dX9_who_141 : decode cX9_who 141 = .ok (.if_icmp .ne 6, 3) := by decide +kernel
theorem dX9_who_144 : decode cX9_who 144 = .ok (.bipush (-2), 2) := by decide +kernel
theorem dX9_who_146 : decode cX9_who 146 = .ok (.ireturn, 1) := by decide +kernel
theorem dX9_who_147 : decode cX9_who 147 = .ok (.aload_n 0, 1) := by decide +kernel
theorem dX9_who_148 : decode cX9_who 148 = .ok (.iload_n 2, 1) := by decide +kernel
theorem dX9_who_149 : decode cX9_who 149 = .ok (.i2l, 1) := by decide +kernel
theorem dX9_who_150 : decode cX9_who 150 = .ok (.iload_n 3, 1) := by decide +kernel
theorem dX9_who_151 : decode cX9_who 151 = .ok (.i2l, 1) := by decide +kernel
theorem dX9_who_152 : decode cX9_who 152 = .ok (.iload 4, 2) := by decide +kernel
theorem dX9_who_154 : decode cX9_who 154 = .ok (.i2l, 1) := by decide +kernel
theorem dX9_who_155 : decode cX9_who 155 = .ok (.invokevirtual 226, 3) := by decide +kernel
theorem dX9_who_158 : decode cX9_who 158 = .ok (.iload_n 1, 1) := by decide +kernel
theorem dX9_who_159 : decode cX9_who 159 = .ok (.ireturn, 1) := by decide +kernel
theorem dX9_distance_0 : decode cX9_distance 0 = .ok (.iconst 0, 1) := by decide +kernel
theorem dX9_distance_1 : decode cX9_distance 1 = .ok (.istore_n 2, 1) := by decide +kernel
theorem dX9_distance_2 : decode cX9_distance 2 = .ok (.iconst 0, 1) := by decide +kernel
theorem dX9_distance_3 : decode cX9_distance 3 = .ok (.istore_n 3, 1) := by decide +kernel
theorem dX9_distance_4 : decode cX9_distance 4 = .ok (.iload_n 3, 1) := by decide +kernel
theorem dX9_distance_5 : decode cX9_distance 5 = .ok (.aload_n 0, 1) := by decide +kernel
theorem dX9_distance_6 : decode cX9_distance 6 = .ok (.getfield 81, 3) := by decide +kernel
theorem dX9_distance_9 : decode cX9_distance 9 = .ok (.if_icmp .ge 29, 3) := by decide +kernel
theorem dX9_distance_12 : decode cX9_distance 12 = .ok (.iload_n 2, 1) := by decide +kernel
theorem dX9_distance_13 : decode cX9_distance 13 = .ok (.aload_n 0, 1) := by decide +kernel
theorem dX9_distance_14 : decode cX9_distance 14 = .ok (.getfield 78, 3) := by decide +kernel
theorem dX9_distance_17 : decode cX9_distance 17 = .ok (.iload_n 3, 1) := by decide +kernel
theorem dX9_distance_18 : decode cX9_distance 18 = .ok (.iaload, 1) := by decide +kernel
theorem dX9_distance_19 : decode cX9_distance 19 = .ok (.aload_n 1, 1) := by decide +kernel
theorem dX9_distance_20 : decode cX9_distance 20 = .ok (.getfield 383, 3) := by decide +kernel
theorem dX9_distance_23 : decode cX9_distance 23 = .ok (.aload_n 1, 1) := by decide +kernel
theorem dX9_distance_24 : decode cX9_distance 24 = .ok (.getfield 386, 3) := by decide +kernel
theorem dX9_distance_27 : decode cX9_distance 27 = .ok (.invokestatic 389, 3) := by decide +kernel
theorem dX9_distance_30 : decode cX9_distance 30 = .ok (.iadd, 1) := by decide +kernel
theorem dX9_distance_31 : decode cX9_distance 31 = .ok (.istore_n 2, 1) := by decide +kernel
theorem dX9_distance_32 : decode cX9_distance 32 = .ok (.iinc 3 1, 3) := by decide +kernel
theorem dX9_distance_35 : decode cX9_distance 35 = .ok (.goto (-31), 3) := by decide +kernel
theorem dX9_distance_38 : decode cX9_distance 38 = .ok (.iconst 0, 1) := by decide +kernel
theorem dX9_distance_39 : decode cX9_distance 39 = .ok (.istore_n 3, 1) := by decide +kernel
theorem dX9_distance_40 : decode cX9_distance 40 = .ok (.iload_n 3, 1) := by decide +kernel
theorem dX9_distance_41 : decode cX9_distance 41 = .ok (.aload_n 1, 1) := by decide +kernel
theorem dX9_distance_42 : decode cX9_distance 42 = .ok (.getfield 386, 3) := by decide +kernel
theorem dX9_distance_45 : decode cX9_distance 45 = .ok (.if_icmp .ge 29, 3) := by decide +kernel
theorem dX9_distance_48 : decode cX9_distance 48 = .ok (.iload_n 2, 1) := by decide +kernel
theorem dX9_distance_49 : decode cX9_distance 49 = .ok (.aload_n 1, 1) := by decide +kernel
theorem dX9_distance_50 : decode cX9_distance 50 = .ok (.getfield 383, 3) := by decide +kernel
theorem dX9_distance_53 : decode cX9_distance 53 = .ok (.iload_n 3, 1) := by decide +kernel
theorem dX9_distance_54 : decode cX9_distance 54 = .ok (.iaload, 1) := by decide +kernel
theorem dX9_distance_55 : decode cX9_distance 55 = .ok (.aload_n 0, 1) := by decide +kernel
theorem dX9_distance_56 : decode cX9_distance 56 = .ok (.getfield 78, 3) := by decide +kernel
theorem dX9_distance_59 : decode cX9_distance 59 = .ok (.aload_n 0, 1) := by decide +kernel
theorem dX9_distance_60 : decode cX9_distance 60 = .ok (.getfield 81, 3) := by decide +kernel
theorem dX9_distance_63 : decode cX9_distance 63 = .ok (.invokestatic 389, 3) := by decide +kernel
theorem dX9_distance_66 : decode cX9_distance 66 = .ok (.iadd, 1) := by decide +kernel
theorem dX9_distance_67 : decode cX9_distance 67 = .ok (.istore_n 2, 1) := by decide +kernel
theorem dX9_distance_68 : decode cX9_distance 68 = .ok (.iinc 3 1, 3) := by decide +kernel
theorem dX9_distance_71 : decode cX9_distance 71 = .ok (.goto (-31), 3) := by decide +kernel
theorem dX9_distance_74 : decode cX9_distance 74 = .ok (.iload_n 2, 1) := by decide +kernel
theorem dX9_distance_75 : decode cX9_distance 75 = .ok (.ireturn, 1) := by decide +kernel
theorem dX9_nearest_0 : decode cX9_nearest 0 = .ok (.sipush 1000, 3) := by decide +kernel
theorem dX9_nearest_3 : decode cX9_nearest 3 = .ok (.istore_n 3, 1) := by decide +kernel
theorem dX9_nearest_4 : decode cX9_nearest 4 = .ok (.iconst 0, 1) := by decide +kernel
theorem dX9_nearest_5 : decode cX9_nearest 5 = .ok (.istore 4, 2) := by decide +kernel
theorem dX9_nearest_7 : decode cX9_nearest 7 = .ok (.iload 4, 2) := by decide +kernel
theorem dX9_nearest_9 : decode cX9_nearest 9 = .ok (.iload_n 2, 1) := by decide +kernel
theorem dX9_nearest_10 : decode cX9_nearest 10 = .ok (.if_icmp .ge 30, 3) := by decide +kernel
theorem dX9_nearest_13 : decode cX9_nearest 13 = .ok (.iload 4, 2) := by decide +kernel
theorem dX9_nearest_15 : decode cX9_nearest 15 = .ok (.aload_n 1, 1) := by decide +kernel
theorem dX9_nearest_16 : decode cX9_nearest 16 = .ok (.arraylength, 1) := by decide +kernel
theorem dX9_nearest_17 : decode cX9_nearest 17 = .ok (.if_icmp .ge 23, 3) := by decide +kernel
theorem dX9_nearest_20 : decode cX9_nearest 20 = .ok (.iload_n 3, 1) := by decide +kernel
theorem dX9_nearest_21 : decode cX9_nearest 21 = .ok (.iload_n 0, 1) := by decide +kernel
theorem dX9_nearest_22 : decode cX9_nearest 22 = .ok (.aload_n 1, 1) := by decide +kernel
theorem dX9_nearest_23 : decode cX9_nearest 23 = .ok (.iload 4, 2) := by decide +kernel
theorem dX9_nearest_25 : decode cX9_nearest 25 = .ok (.iaload, 1) := by decide +kernel
theorem dX9_nearest_26 : decode cX9_nearest 26 = .ok (.isub, 1) := by decide +kernel
theorem dX9_nearest_27 : decode cX9_nearest 27 = .ok (.invokestatic 253, 3) := by decide +kernel
theorem dX9_nearest_30 : decode cX9_nearest 30 = .ok (.invokestatic 233, 3) := by decide +kernel
theorem dX9_nearest_33 : decode cX9_nearest 33 = .ok (.istore_n 3, 1) := by decide +kernel
theorem dX9_nearest_34 : decode cX9_nearest 34 = .ok (.iinc 4 1, 3) := by decide +kernel
theorem dX9_nearest_37 : decode cX9_nearest 37 = .ok (.goto (-30), 3) := by decide +kernel
theorem dX9_nearest_40 : decode cX9_nearest 40 = .ok (.iload_n 3, 1) := by decide +kernel
theorem dX9_nearest_41 : decode cX9_nearest 41 = .ok (.ireturn, 1) := by decide +kernel
theorem dX9_film_0 : decode cX9_film 0 = .ok (.iload_n 1, 1) := by decide +kernel
theorem dX9_film_1 : decode cX9_film 1 = .ok (.invokestatic 158, 3) := by decide +kernel
theorem dX9_film_4 : decode cX9_film 4 = .ok (.ifCond .eq 35, 3) := by decide +kernel
theorem dX9_film_7 : decode cX9_film 7 = .ok (.iload_n 2, 1) := by decide +kernel
theorem dX9_film_8 : decode cX9_film 8 = .ok (.sipush (-999), 3) := by decide +kernel
theorem dX9_film_11 : decode cX9_film 11 = .ok (.sipush 999, 3) := by decide +kernel
theorem dX9_film_14 : decode cX9_film 14 = .ok (.invokestatic 102, 3) := by decide +kernel
theorem dX9_film_17 : decode cX9_film 17 = .ok (.ifCond .eq 22, 3) := by decide +kernel
theorem dX9_film_20 : decode cX9_film 20 = .ok (.iload_n 3, 1) := by decide +kernel
theorem dX9_film_21 : decode cX9_film 21 = .ok (.iconst 0, 1) := by decide +kernel
theorem dX9_film_22 : decode cX9_film 22 = .ok (.sipush 1000, 3) := by decide +kernel
theorem dX9_film_25 : decode cX9_film 25 = .ok (.invokestatic 102, 3) := by decide +kernel
theorem dX9_film_28 : decode cX9_film 28 = .ok (.ifCond .eq 11, 3) := by decide +kernel
theorem dX9_film_31 : decode cX9_film 31 = .ok (.iload 4, 2) := by decide +kernel
theorem dX9_film_33 : decode cX9_film 33 = .ok (.invokestatic 158, 3) := by decide +kernel
theorem dX9_film_36 : decode cX9_film 36 = .ok (.ifCond .ne 5, 3) := by decide +kernel
theorem dX9_film_39 : decode cX9_film 39 = .ok (.iconst (-1), 1) := by decide +kernel
theorem dX9_film_40 : decode cX9_film 40 = .ok (.ireturn, 1) := by decide +kernel
theorem dX9_film_41 : decode cX9_film 41 = .ok (.aload_n 0, 1) := by decide +kernel
theorem dX9_film_42 : decode cX9_film 42 = .ok (.getfield 87, 3) := by decide +kernel
theorem dX9_film_45 : decode cX9_film 45 = .ok (.iload_n 1, 1) := by decide +kernel
theorem dX9_film_46 : decode cX9_film 46 = .ok (.iload_n 2, 1) := by decide +kernel
theorem dX9_film_47 : decode cX9_film 47 = .ok (.iload_n 3, 1) := by decide +kernel
theorem dX9_film_48 : decode cX9_film 48 = .ok (.iload 4, 2) := by decide +kernel
theorem dX9_film_50 : decode cX9_film 50 = .ok (.invokevirtual 393, 3) := by decide +kernel
theorem dX9_film_53 : decode cX9_film 53 = .ok (.ifCond .eq 13, 3) := by decide +kernel
theorem dX9_film_56 : decode cX9_film 56 = .ok (.aload_n 0, 1) := by decide +kernel
theorem dX9_film_57 : decode cX9_film 57 = .ok (.getfield 87, 3) := by decide +kernel
theorem dX9_film_60 : decode cX9_film 60 = .ok (.getfield 396, 3) := by decide +kernel
theorem dX9_film_63 : decode cX9_film 63 = .ok (.goto 4, 3) := by decide +kernel
theorem dX9_film_66 : decode cX9_film 66 = .ok (.iconst (-1), 1) := by decide +kernel
theorem dX9_film_67 : decode cX9_film 67 = .ok (.ireturn, 1) := by decide +kernel
theorem dX9_fits_0 : decode cX9_fits 0 = .ok (.aload_n 0, 1) := by decide +kernel
theorem dX9_fits_1 : decode cX9_fits 1 = .ok (.iload_n 1, 1) := by decide +kernel
theorem dX9_fits_2 : decode cX9_fits 2 = .ok (.invokevirtual 208, 3) := by decide +kernel
theorem dX9_fits_5 : decode cX9_fits 5 = .ok (.astore_n 3, 1) := by decide +kernel
theorem dX9_fits_6 : decode cX9_fits 6 = .ok (.aload_n 3, 1) := by decide +kernel
theorem dX9_fits_7 : decode cX9_fits 7 = .ok (.ifnull 13, 3) := by decide +kernel
theorem dX9_fits_10 : decode cX9_fits 10 = .ok (.iload_n 2, 1) := by decide +kernel
theorem dX9_fits_11 : decode cX9_fits 11 = .ok (.iconst 0, 1) := by decide +kernel
theorem dX9_fits_12 : decode cX9_fits 12 = .ok (.bipush 99, 2) := by decide +kernel
theorem dX9_fits_14 : decode cX9_fits 14 = .ok (.invokestatic 102, 3) := by decide +kernel
theorem dX9_fits_17 : decode cX9_fits 17 = .ok (.ifCond .ne 5, 3) := by decide +kernel
theorem dX9_fits_20 : decode cX9_fits 20 = .ok (.iconst (-1), 1) := by decide +kernel
theorem dX9_fits_21 : decode cX9_fits 21 = .ok (.ireturn, 1) := by decide +kernel
theorem dX9_fits_22 : decode cX9_fits 22 = .ok (.iconst 0, 1) := by decide +kernel
theorem dX9_fits_23 : decode cX9_fits 23 = .ok (.istore 4, 2) := by decide +kernel
theorem dX9_fits_25 : decode cX9_fits 25 = .ok (.iconst 0, 1) := by decide +kernel
theorem dX9_fits_26 : decode cX9_fits 26 = .ok (.istore 5, 2) := by decide +kernel
theorem dX9_fits_28 : decode cX9_fits 28 = .ok (.iconst (-1), 1) := by decide +kernel
theorem dX9_fits_29 : decode cX9_fits 29 = .ok (.istore 6, 2) := by decide +kernel
theorem dX9_fits_31 : decode cX9_fits 31 = .ok (.iconst (-1), 1) := by decide +kernel
theorem dX9_fits_32 : decode cX9_fits 32 = .ok (.istore 7, 2) := by decide +kernel
theorem dX9_fits_34 : decode cX9_fits 34 = .ok (.iconst 0, 1) := by decide +kernel
theorem dX9_fits_35 : decode cX9_fits 35 = .ok (.istore 8, 2) := by decide +kernel
theorem dX9_fits_37 : decode cX9_fits 37 = .ok (.iload 8, 2) := by decide +kernel
theorem dX9_fits_39 : decode cX9_fits 39 = .ok (.aload_n 0, 1) := by decide +kernel
theorem dX9_fits_40 : decode cX9_fits 40 = .ok (.getfield 87, 3) := by decide +kernel
theorem dX9_fits_43 : decode cX9_fits 43 = .ok (.getfield 396, 3) := by decide +kernel
theorem dX9_fits_46 : decode cX9_fits 46 = .ok (.if_icmp .ge 63, 3) := by decide +kernel
theorem dX9_fits_49 : decode cX9_fits 49 = .ok (.aload_n 0, 1) := by decide +kernel
theorem dX9_fits_50 : decode cX9_fits 50 = .ok (.getfield 87, 3) := by decide +kernel
theorem dX9_fits_53 : decode cX9_fits 53 = .ok (.iload 8, 2) := by decide +kernel
theorem dX9_fits_55 : decode cX9_fits 55 = .ok (.aload_n 3, 1) := by decide +kernel
theorem dX9_fits_56 : decode cX9_fits 56 = .ok (.aload_n 0, 1) := by decide +kernel
theorem dX9_fits_57 : decode cX9_fits 57 = .ok (.getfield 10, 3) := by decide +kernel
theorem dX9_fits_60 : decode cX9_fits 60 = .ok (.invokevirtual 399, 3) := by decide +kernel
theorem dX9_fits_63 : decode cX9_fits 63 = .ok (.istore 9, 2) := by decide +kernel
theorem dX9_fits_65 : decode cX9_fits 65 = .ok (.iload 5, 2) := by decide +kernel
theorem dX9_fits_67 : decode cX9_fits 67 = .ok (.iload 9, 2) := by decide +kernel
theorem dX9_fits_69 : decode cX9_fits 69 = .ok (.iadd, 1) := by decide +kernel
theorem dX9_fits_70 : decode cX9_fits 70 = .ok (.istore 5, 2) := by decide +kernel
theorem dX9_fits_72 : decode cX9_fits 72 = .ok (.iload 4, 2) := by decide +kernel
theorem dX9_fits_74 : decode cX9_fits 74 = .ok (.iload 9, 2) := by decide +kernel
theorem dX9_fits_76 : decode cX9_fits 76 = .ok (.iload_n 2, 1) := by decide +kernel
theorem dX9_fits_77 : decode cX9_fits 77 = .ok (.if_icmp .gt 7, 3) := by decide +kernel
theorem dX9_fits_80 : decode cX9_fits 80 = .ok (.iconst 1, 1) := by decide +kernel
theorem dX9_fits_81 : decode cX9_fits 81 = .ok (.goto 4, 3) := by decide +kernel
theorem dX9_fits_84 : decode cX9_fits 84 = .ok (.iconst 0, 1) := by decide +kernel
theorem dX9_fits_85 : decode cX9_fits 85 = .ok (.iadd, 1) := by decide +kernel
theorem dX9_fits_86 : decode cX9_fits 86 = .ok (.istore 4, 2) := by decide +kernel
theorem dX9_fits_88 : decode cX9_fits 88 = .ok (.iload 9, 2) := by decide +kernel
theorem dX9_fits_90 : decode cX9_fits 90 = .ok (.iload 7, 2) := by decide +kernel
theorem dX9_fits_92 : decode cX9_fits 92 = .ok (.if_icmp .le 11, 3) := by decide +kernel
theorem dX9_fits_95 : decode cX9_fits 95 = .ok (.iload 9, 2) := by decide +kernel
theorem dX9_fits_97 : decode cX9_fits 97 = .ok (.istore 7, 2) := by decide +kernel
theorem dX9_fits_99 : decode cX9_fits 99 = .ok (.iload 8, 2) := by decide +kernel
theorem dX9_fits_101 : decode cX9_fits 101 = .ok (.istore 6, 2) := by decide +kernel
theorem dX9_fits_103 : decode cX9_fits 103 = .ok (.iinc 8 1, 3) := by decide +kernel
theorem dX9_fits_106 : decode cX9_fits 106 = .ok (.goto (-69), 3) := by decide +kernel
theorem dX9_fits_109 : decode cX9_fits 109 = .ok (.aload_n 0, 1) := by decide +kernel
theorem dX9_fits_110 : decode cX9_fits 110 = .ok (.iload 5, 2) := by decide +kernel
theorem dX9_fits_112 : decode cX9_fits 112 = .ok (.i2l, 1) := by decide +kernel
theorem dX9_fits_113 : decode cX9_fits 113 = .ok (.iload 6, 2) := by decide +kernel
theorem dX9_fits_115 : decode cX9_fits 115 = .ok (.i2l, 1) := by decide +kernel
theorem dX9_fits_116 : decode cX9_fits 116 = .ok (.invokevirtual 250, 3) := by decide +kernel
theorem dX9_fits_119 : decode cX9_fits 119 = .ok (.iload 4, 2) := by decide +kernel
theorem dX9_fits_121 : decode cX9_fits 121 = .ok (.ireturn, 1) := by decide +kernel
theorem dX9_reads_0 : decode cX9_reads 0 = .ok (.aload_n 0, 1) := by decide +kernel
theorem dX9_reads_1 : decode cX9_reads 1 = .ok (.getfield 87, 3) := by decide +kernel
theorem dX9_reads_4 : decode cX9_reads 4 = .ok (.getfield 396, 3) := by decide +kernel
theorem dX9_reads_7 : decode cX9_reads 7 = .ok (.ifCond .ne 5, 3) := by decide +kernel
theorem dX9_reads_10 : decode cX9_reads 10 = .ok (.iconst (-1), 1) := by decide +kernel
theorem dX9_reads_11 : decode cX9_reads 11 = .ok (.ireturn, 1) := by decide +kernel
theorem dX9_reads_12 : decode cX9_reads 12 = .ok (.ldc_w 326, 3) := by decide +kernel
theorem dX9_reads_15 : decode cX9_reads 15 = .ok (.istore_n 1, 1) := by decide +kernel
theorem dX9_reads_16 : decode cX9_reads 16 = .ok (.iconst (-1), 1) := by decide +kernel
theorem dX9_reads_17 : decode cX9_reads 17 = .ok (.istore_n 2, 1) := by decide +kernel
theorem dX9_reads_18 : decode cX9_reads 18 = .ok (.iconst (-1), 1) := by decide +kernel
theorem dX9_reads_19 : decode cX9_reads 19 = .ok (.istore_n 3, 1) := by decide +kernel
theorem dX9_reads_20 : decode cX9_reads 20 = .ok (.iconst 0, 1) := by decide +kernel
theorem dX9_reads_21 : decode cX9_reads 21 = .ok (.istore 4, 2) := by decide +kernel
theorem dX9_reads_23 : decode cX9_reads 23 = .ok (.iload 4, 2) := by decide +kernel
theorem dX9_reads_25 : decode cX9_reads 25 = .ok (.bipush 20, 2) := by decide +kernel
theorem dX9_reads_27 : decode cX9_reads 27 = .ok (.if_icmp .gt 53, 3) := by decide +kernel
theorem dX9_reads_30 : decode cX9_reads 30 = .ok (.iconst 0, 1) := by decide +kernel
theorem dX9_reads_31 : decode cX9_reads 31 = .ok (.istore 5, 2) := by decide +kernel
theorem dX9_reads_33 : decode cX9_reads 33 = .ok (.iload 5, 2) := by decide +kernel
theorem dX9_reads_35 : decode cX9_reads 35 = .ok (.bipush 20, 2) := by decide +kernel
theorem dX9_reads_37 : decode cX9_reads 37 = .ok (.if_icmp .gt 37, 3) := by decide +kernel
theorem dX9_reads_40 : decode cX9_reads 40 = .ok (.aload_n 0, 1) := by decide +kernel
theorem dX9_reads_41 : decode cX9_reads 41 = .ok (.getfield 87, 3) := by decide +kernel
theorem dX9_reads_44 : decode cX9_reads 44 = .ok (.iload 4, 2) := by decide +kernel
theorem dX9_reads_46 : decode cX9_reads 46 = .ok (.iload 5, 2) := by decide +kernel
theorem dX9_reads_48 : decode cX9_reads 48 = .ok (.invokevirtual 403, 3) := by decide +kernel
theorem dX9_reads_51 : decode cX9_reads 51 = .ok (.istore 6, 2) := by decide +kernel
theorem dX9_reads_53 : decode cX9_reads 53 = .ok (.iload 6, 2) := by decide +kernel
theorem dX9_reads_55 : decode cX9_reads 55 = .ok (.iload_n 1, 1) := by decide +kernel
theorem dX9_reads_56 : decode cX9_reads 56 = .ok (.if_icmp .ge 12, 3) := by decide +kernel
theorem dX9_reads_59 : decode cX9_reads 59 = .ok (.iload 6, 2) := by decide +kernel
theorem dX9_reads_61 : decode cX9_reads 61 = .ok (.istore_n 1, 1) := by decide +kernel
theorem dX9_reads_62 : decode cX9_reads 62 = .ok (.iload 4, 2) := by decide +kernel
theorem dX9_reads_64 : decode cX9_reads 64 = .ok (.istore_n 2, 1) := by decide +kernel
theorem dX9_reads_65 : decode cX9_reads 65 = .ok (.iload 5, 2) := by decide +kernel
theorem dX9_reads_67 : decode cX9_reads 67 = .ok (.istore_n 3, 1) := by decide +kernel
theorem dX9_reads_68 : decode cX9_reads 68 = .ok (.iinc 5 1, 3) := by decide +kernel
theorem dX9_reads_71 : decode cX9_reads 71 = .ok (.goto (-38), 3) := by decide +kernel
theorem dX9_reads_74 : decode cX9_reads 74 = .ok (.iinc 4 1, 3) := by decide +kernel
theorem dX9_reads_77 : decode cX9_reads 77 = .ok (.goto (-54), 3) := by decide +kernel
theorem dX9_reads_80 : decode cX9_reads 80 = .ok (.aload_n 0, 1) := by decide +kernel
theorem dX9_reads_81 : decode cX9_reads 81 = .ok (.iload_n 2, 1) := by decide +kernel
theorem dX9_reads_82 : decode cX9_reads 82 = .ok (.i2l, 1) := by decide +kernel
theorem dX9_reads_83 : decode cX9_reads 83 = .ok (.iload_n 3, 1) := by decide +kernel
theorem dX9_reads_84 : decode cX9_reads 84 = .ok (.i2l, 1) := by decide +kernel
theorem dX9_reads_85 : decode cX9_reads 85 = .ok (.iload_n 1, 1) := by decide +kernel
theorem dX9_reads_86 : decode cX9_reads 86 = .ok (.i2l, 1) := by decide +kernel
theorem dX9_reads_87 : decode cX9_reads 87 = .ok (.invokevirtual 226, 3) := by decide +kernel
theorem dX9_reads_90 : decode cX9_reads 90 = .ok (.iconst 0, 1) := by decide +kernel
theorem dX9_reads_91 : decode cX9_reads 91 = .ok (.ireturn, 1) := by decide +kernel
theorem dX9_seed_0 : decode cX9_seed 0 = .ok (.aload_n 0, 1) := by decide +kernel
theorem dX9_seed_1 : decode cX9_seed 1 = .ok (.getfield 19, 3) := by decide +kernel
theorem dX9_seed_4 : decode cX9_seed 4 = .ok (.getfield 406, 3) := by decide +kernel
theorem dX9_seed_7 : decode cX9_seed 7 = .ok (.istore_n 2, 1) := by decide +kernel
theorem dX9_seed_8 : decode cX9_seed 8 = .ok (.aload_n 0, 1) := by decide +kernel
theorem dX9_seed_9 : decode cX9_seed 9 = .ok (.getfield 19, 3) := by decide +kernel
theorem dX9_seed_12 : decode cX9_seed 12 = .ok (.iload_n 1, 1) := by decide +kernel
theorem dX9_seed_13 : decode cX9_seed 13 = .ok (.putfield 406, 3) := by decide +kernel
theorem dX9_seed_16 : decode cX9_seed 16 = .ok (.iload_n 2, 1) := by decide +kernel
theorem dX9_seed_17 : decode cX9_seed 17 = .ok (.ireturn, 1) := by decide +kernel
theorem dX9_keep_0 : decode cX9_keep 0 = .ok (.iload_n 1, 1) := by decide +kernel
theorem dX9_keep_1 : decode cX9_keep 1 = .ok (.iconst 0, 1) := by decide +kernel
theorem dX9_keep_2 : decode cX9_keep 2 = .ok (.iconst 2, 1) := by decide +kernel
theorem dX9_keep_3 : decode cX9_keep 3 = .ok (.invokestatic 102, 3) := by decide +kernel
theorem dX9_keep_6 : decode cX9_keep 6 = .ok (.ifCond .ne 5, 3) := by decide +kernel
theorem dX9_keep_9 : decode cX9_keep 9 = .ok (.iconst 0, 1) := by decide +kernel
theorem dX9_keep_10 : decode cX9_keep 10 = .ok (.ireturn, 1) := by decide +kernel
theorem dX9_keep_11 : decode cX9_keep 11 = .ok (.aload_n 0, 1) := by decide +kernel
theorem dX9_keep_12 : decode cX9_keep 12 = .ok (.getfield 23, 3) := by decide +kernel
theorem dX9_keep_15 : decode cX9_keep 15 = .ok (.iload_n 1, 1) := by decide +kernel
theorem dX9_keep_16 : decode cX9_keep 16 = .ok (.aaload, 1) := by decide +kernel
theorem dX9_keep_17 : decode cX9_keep 17 = .ok (.aload_n 0, 1) := by decide +kernel
theorem dX9_keep_18 : decode cX9_keep 18 = .ok (.getfield 19, 3) := by decide +kernel
theorem dX9_keep_21 : decode cX9_keep 21 = .ok (.invokevirtual 409, 3) := by decide +kernel
theorem dX9_keep_24 : decode cX9_keep 24 = .ok (.aload_n 0, 1) := by decide +kernel
theorem dX9_keep_25 : decode cX9_keep 25 = .ok (.dup, 1) := by decide +kernel
theorem dX9_keep_26 : decode cX9_keep 26 = .ok (.getfield 27, 3) := by decide +kernel
theorem dX9_keep_29 : decode cX9_keep 29 = .ok (.iconst 1, 1) := by decide +kernel
theorem dX9_keep_30 : decode cX9_keep 30 = .ok (.iload_n 1, 1) := by decide +kernel
theorem dX9_keep_31 : decode cX9_keep 31 = .ok (.ishl, 1) := by decide +kernel
theorem dX9_keep_32 : decode cX9_keep 32 = .ok (.ior, 1) := by decide +kernel
theorem dX9_keep_33 : decode cX9_keep 33 = .ok (.putfield 27, 3) := by decide +kernel
theorem dX9_keep_36 : decode cX9_keep 36 = .ok (.iconst 1, 1) := by decide +kernel
theorem dX9_keep_37 : decode cX9_keep 37 = .ok (.ireturn, 1) := by decide +kernel
theorem dX9_again_0 : decode cX9_again 0 = .ok (.iload_n 1, 1) := by decide +kernel
theorem dX9_again_1 : decode cX9_again 1 = .ok (.iconst 0, 1) := by decide +kernel
theorem dX9_again_2 : decode cX9_again 2 = .ok (.iconst 2, 1) := by decide +kernel
theorem dX9_again_3 : decode cX9_again 3 = .ok (.invokestatic 102, 3) := by decide +kernel
theorem dX9_again_6 : decode cX9_again 6 = .ok (.ifCond .eq 14, 3) := by decide +kernel
theorem dX9_again_9 : decode cX9_again 9 = .ok (.aload_n 0, 1) := by decide +kernel
theorem dX9_again_10 : decode cX9_again 10 = .ok (.getfield 27, 3) := by decide +kernel
theorem dX9_again_13 : decode cX9_again 13 = .ok (.iload_n 1, 1) := by decide +kernel
theorem dX9_again_14 : decode cX9_again 14 = .ok (.ishr, 1) := by decide +kernel
theorem dX9_again_15 : decode cX9_again 15 = .ok (.iconst 1, 1) := by decide +kernel
theorem dX9_again_16 : decode cX9_again 16 = .ok (.iand, 1) := by decide +kernel
theorem dX9_again_17 : decode cX9_again 17 = .ok (.ifCond .ne 5, 3) := by decide +kernel
theorem dX9_again_20 : decode cX9_again 20 = .ok (.iconst 0, 1) := by decide +kernel
theorem dX9_again_21 : decode cX9_again 21 = .ok (.ireturn, 1) := by decide +kernel
theorem dX9_again_22 : decode cX9_again 22 = .ok (.aload_n 0, 1) := by decide +kernel
theorem dX9_again_23 : decode cX9_again 23 = .ok (.getfield 19, 3) := by decide +kernel
theorem dX9_again_26 : decode cX9_again 26 = .ok (.aload_n 0, 1) := by decide +kernel
theorem dX9_again_27 : decode cX9_again 27 = .ok (.getfield 23, 3) := by decide +kernel
theorem dX9_again_30 : decode cX9_again 30 = .ok (.iload_n 1, 1) := by decide +kernel
theorem dX9_again_31 : decode cX9_again 31 = .ok (.aaload, 1) := by decide +kernel
theorem dX9_again_32 : decode cX9_again 32 = .ok (.invokevirtual 409, 3) := by decide +kernel
theorem dX9_again_35 : decode cX9_again 35 = .ok (.iconst 1, 1) := by decide +kernel
theorem dX9_again_36 : decode cX9_again 36 = .ok (.ireturn, 1) := by decide +kernel
theorem dX9_count_0 : decode cX9_count 0 = .ok (.iload_n 1, 1) := by decide +kernel
theorem dX9_count_1 : decode cX9_count 1 = .ok (.tableswitch 128 0 9 #[55, 65, 73, 81, 89, 94, 99, 107, 112, 120], 55) := by decide +kernel
theorem dX9_count_56 : decode cX9_count 56 = .ok (.aload_n 0, 1) := by decide +kernel
theorem dX9_count_57 : decode cX9_count 57 = .ok (.getfield 10, 3) := by decide +kernel
theorem dX9_count_60 : decode cX9_count 60 = .ok (.getfield 106, 3) := by decide +kernel
theorem dX9_count_63 : decode cX9_count 63 = .ok (.iconst 1, 1) := by decide +kernel
theorem dX9_count_64 : decode cX9_count 64 = .ok (.iadd, 1) := by decide +kernel
theorem dX9_count_65 : decode cX9_count 65 = .ok (.ireturn, 1) := by decide +kernel
theorem dX9_count_66 : decode cX9_count 66 = .ok (.aload_n 0, 1) := by decide +kernel
theorem dX9_count_67 : decode cX9_count 67 = .ok (.getfield 10, 3) := by decide +kernel
theorem dX9_count_70 : decode cX9_count 70 = .ok (.getfield 109, 3) := by decide +kernel
theorem dX9_count_73 : decode cX9_count 73 = .ok (.ireturn, 1) := by decide +kernel
theorem dX9_count_74 : decode cX9_count 74 = .ok (.aload_n 0, 1) := by decide +kernel
theorem dX9_count_75 : decode cX9_count 75 = .ok (.getfield 10, 3) := by decide +kernel
theorem dX9_count_78 : decode cX9_count 78 = .ok (.getfield 112, 3) := by decide +kernel
theorem dX9_count_81 : decode cX9_count 81 = .ok (.ireturn, 1) := by decide +kernel
theorem dX9_count_82 : decode cX9_count 82 = .ok (.aload_n 0, 1) := by decide +kernel
theorem dX9_count_83 : decode cX9_count 83 = .ok (.getfield 19, 3) := by decide +kernel
theorem dX9_count_86 : decode cX9_count 86 = .ok (.getfield 142, 3) := by decide +kernel
theorem dX9_count_89 : decode cX9_count 89 = .ok (.ireturn, 1) := by decide +kernel
theorem dX9_count_90 : decode cX9_count 90 = .ok (.aload_n 0, 1) := by decide +kernel
theorem dX9_count_91 : decode cX9_count 91 = .ok (.invokevirtual 413, 3) := by decide +kernel
theorem dX9_count_94 : decode cX9_count 94 = .ok (.ireturn, 1) := by decide +kernel
theorem dX9_count_95 : decode cX9_count 95 = .ok (.aload_n 0, 1) := by decide +kernel
theorem dX9_count_96 : decode cX9_count 96 = .ok (.getfield 81, 3) := by decide +kernel
theorem dX9_count_99 : decode cX9_count 99 = .ok (.ireturn, 1) := by decide +kernel
theorem dX9_count_100 : decode cX9_count 100 = .ok (.aload_n 0, 1) := by decide +kernel
theorem dX9_count_101 : decode cX9_count 101 = .ok (.getfield 87, 3) := by decide +kernel
theorem dX9_count_104 : decode cX9_count 104 = .ok (.getfield 396, 3) := by decide +kernel
theorem dX9_count_107 : decode cX9_count 107 = .ok (.ireturn, 1) := by decide +kernel
theorem dX9_count_108 : decode cX9_count 108 = .ok (.aload_n 0, 1) := by decide +kernel
theorem dX9_count_109 : decode cX9_count 109 = .ok (.getfield 95, 3) := by decide +kernel
theorem dX9_count_112 : decode cX9_count 112 = .ok (.ireturn, 1) := by decide +kernel
theorem dX9_count_113 : decode cX9_count 113 = .ok (.aload_n 0, 1) := by decide +kernel
theorem dX9_count_114 : decode cX9_count 114 = .ok (.getfield 34, 3) := by decide +kernel
theorem dX9_count_117 : decode cX9_count 117 = .ok (.getfield 190, 3) := by decide +kernel
theorem dX9_count_120 : decode cX9_count 120 = .ok (.ireturn, 1) := by decide +kernel
theorem dX9_count_121 : decode cX9_count 121 = .ok (.aload_n 0, 1) := by decide +kernel
theorem dX9_count_122 : decode cX9_count 122 = .ok (.getfield 10, 3) := by decide +kernel
theorem dX9_count_125 : decode cX9_count 125 = .ok (.invokevirtual 416, 3) := by decide +kernel
theorem dX9_count_128 : decode cX9_count 128 = .ok (.ireturn, 1) := by decide +kernel
theorem dX9_count_129 : decode cX9_count 129 = .ok (.iconst (-1), 1) := by decide +kernel
theorem dX9_count_130 : decode cX9_count 130 = .ok (.ireturn, 1) := by decide +kernel
theorem dX9_row_0 : decode cX9_row 0 = .ok (.iload_n 1, 1) := by decide +kernel
theorem dX9_row_1 : decode cX9_row 1 = .ok (.iconst 0, 1) := by decide +kernel
theorem dX9_row_2 : decode cX9_row 2 = .ok (.aload_n 0, 1) := by decide +kernel
theorem dX9_row_3 : decode cX9_row 3 = .ok (.getfield 95, 3) := by decide +kernel
theorem dX9_row_6 : decode cX9_row 6 = .ok (.iconst 1, 1) := by decide +kernel
theorem dX9_row_7 : decode cX9_row 7 = .ok (.isub, 1) := by decide +kernel
theorem dX9_row_8 : decode cX9_row 8 = .ok (.invokestatic 102, 3) := by decide +kernel
theorem dX9_row_11 : decode cX9_row 11 = .ok (.ifCond .ne 11, 3) := by decide +kernel
theorem dX9_row_14 : decode cX9_row 14 = .ok (.new 165, 3) := by decide +kernel
theorem dX9_row_17 : decode cX9_row 17 = .ok (.dup, 1) := by decide +kernel
theorem dX9_row_18 : decode cX9_row 18 = .ok (.invokespecial 167, 3) := by decide +kernel
theorem dX9_row_21 : decode cX9_row 21 = .ok (.athrow, 1) := by decide +kernel
theorem dX9_row_22 : decode cX9_row 22 = .ok (.aload_n 0, 1) := by decide +kernel
theorem dX9_row_23 : decode cX9_row 23 = .ok (.getfield 91, 3) := by decide +kernel
theorem dX9_row_26 : decode cX9_row 26 = .ok (.iload_n 1, 1) := by decide +kernel
theorem dX9_row_27 : decode cX9_row 27 = .ok (.laload, 1) := by decide +kernel
theorem dX9_row_28 : decode cX9_row 28 = .ok (.lreturn, 1) := by decide +kernel
theorem dX9_toldLawBits_0 : decode cX9_toldLawBits 0 = .ok (.iconst 0, 1) := by decide +kernel
theorem dX9_toldLawBits_1 : decode cX9_toldLawBits 1 = .ok (.istore_n 1, 1) := by decide +kernel
theorem dX9_toldLawBits_2 : decode cX9_toldLawBits 2 = .ok (.iconst 0, 1) := by decide +kernel
theorem dX9_toldLawBits_3 : decode cX9_toldLawBits 3 = .ok (.istore_n 2, 1) := by decide +kernel
theorem dX9_toldLawBits_4 : decode cX9_toldLawBits 4 = .ok (.iload_n 2, 1) := by decide +kernel
theorem dX9_toldLawBits_5 : decode cX9_toldLawBits 5 = .ok (.iconst 3, 1) := by decide +kernel
theorem dX9_toldLawBits_6 : decode cX9_toldLawBits 6 = .ok (.if_icmp .ge 31, 3) := by decide +kernel
theorem dX9_toldLawBits_9 : decode cX9_toldLawBits 9 = .ok (.iload_n 1, 1) := by decide +kernel
theorem dX9_toldLawBits_10 : decode cX9_toldLawBits 10 = .ok (.aload_n 0, 1) := by decide +kernel
theorem dX9_toldLawBits_11 : decode cX9_toldLawBits 11 = .ok (.getfield 55, 3) := by decide +kernel
theorem dX9_toldLawBits_14 : decode cX9_toldLawBits 14 = .ok (.iload_n 2, 1) := by decide +kernel
theorem dX9_toldLawBits_15 : decode cX9_toldLawBits 15 = .ok (.aaload, 1) := by decide +kernel
theorem dX9_toldLawBits_16 : decode cX9_toldLawBits 16 = .ok (.getfield 419, 3) := by decide +kernel
theorem dX9_toldLawBits_19 : decode cX9_toldLawBits 19 = .ok (.ifCond .le 9, 3) := by decide +kernel
theorem dX9_toldLawBits_22 : decode cX9_toldLawBits 22 = .ok (.iconst 1, 1) := by decide +kernel
theorem dX9_toldLawBits_23 : decode cX9_toldLawBits 23 = .ok (.iload_n 2, 1) := by decide +kernel
theorem dX9_toldLawBits_24 : decode cX9_toldLawBits 24 = .ok (.ishl, 1) := by decide +kernel
theorem dX9_toldLawBits_25 : decode cX9_toldLawBits 25 = .ok (.goto 4, 3) := by decide +kernel
theorem dX9_toldLawBits_28 : decode cX9_toldLawBits 28 = .ok (.iconst 0, 1) := by decide +kernel
theorem dX9_toldLawBits_29 : decode cX9_toldLawBits 29 = .ok (.ior, 1) := by decide +kernel
theorem dX9_toldLawBits_30 : decode cX9_toldLawBits 30 = .ok (.istore_n 1, 1) := by decide +kernel
theorem dX9_toldLawBits_31 : decode cX9_toldLawBits 31 = .ok (.iinc 2 1, 3) := by decide +kernel
theorem dX9_toldLawBits_34 : decode cX9_toldLawBits 34 = .ok (.goto (-30), 3) := by decide +kernel
theorem dX9_toldLawBits_37 : decode cX9_toldLawBits 37 = .ok (.iload_n 1, 1) := by decide +kernel
theorem dX9_toldLawBits_38 : decode cX9_toldLawBits 38 = .ok (.ireturn, 1) := by decide +kernel
theorem dX9_isIn_0 : decode cX9_isIn 0 = .ok (.iload_n 0, 1) := by decide +kernel
theorem dX9_isIn_1 : decode cX9_isIn 1 = .ok (.iload_n 1, 1) := by decide +kernel
theorem dX9_isIn_2 : decode cX9_isIn 2 = .ok (.if_icmp .lt 12, 3) := by decide +kernel
theorem dX9_isIn_5 : decode cX9_isIn 5 = .ok (.iload_n 0, 1) := by decide +kernel
theorem dX9_isIn_6 : decode cX9_isIn 6 = .ok (.iload_n 2, 1) := by decide +kernel
theorem dX9_isIn_7 : decode cX9_isIn 7 = .ok (.if_icmp .gt 7, 3) := by decide +kernel
theorem dX9_isIn_10 : decode cX9_isIn 10 = .ok (.iconst 1, 1) := by decide +kernel
theorem dX9_isIn_11 : decode cX9_isIn 11 = .ok (.goto 4, 3) := by decide +kernel
theorem dX9_isIn_14 : decode cX9_isIn 14 = .ok (.iconst 0, 1) := by decide +kernel
theorem dX9_isIn_15 : decode cX9_isIn 15 = .ok (.ireturn, 1) := by decide +kernel
theorem dX9_between_0 : decode cX9_between 0 = .ok (.iload_n 0, 1) := by decide +kernel
theorem dX9_between_1 : decode cX9_between 1 = .ok (.iload_n 1, 1) := by decide +kernel
theorem dX9_between_2 : decode cX9_between 2 = .ok (.if_icmp .ge 5, 3) := by decide +kernel
theorem dX9_between_5 : decode cX9_between 5 = .ok (.iload_n 1, 1) := by decide +kernel
theorem dX9_between_6 : decode cX9_between 6 = .ok (.ireturn, 1) := by decide +kernel
theorem dX9_between_7 : decode cX9_between 7 = .ok (.iload_n 0, 1) := by decide +kernel
theorem dX9_between_8 : decode cX9_between 8 = .ok (.iload_n 2, 1) := by decide +kernel
theorem dX9_between_9 : decode cX9_between 9 = .ok (.if_icmp .le 7, 3) := by decide +kernel
theorem dX9_between_12 : decode cX9_between 12 = .ok (.iload_n 2, 1) := by decide +kernel
theorem dX9_between_13 : decode cX9_between 13 = .ok (.goto 4, 3) := by decide +kernel
theorem dX9_between_16 : decode cX9_between 16 = .ok (.iload_n 0, 1) := by decide +kernel
theorem dX9_between_17 : decode cX9_between 17 = .ok (.ireturn, 1) := by decide +kernel
theorem dX9_isPush_0 : decode cX9_isPush 0 = .ok (.iload_n 0, 1) := by decide +kernel
theorem dX9_isPush_1 : decode cX9_isPush 1 = .ok (.sipush (-500), 3) := by decide +kernel
theorem dX9_isPush_4 : decode cX9_isPush 4 = .ok (.sipush 500, 3) := by decide +kernel
theorem dX9_isPush_7 : decode cX9_isPush 7 = .ok (.invokestatic 102, 3) := by decide +kernel
theorem dX9_isPush_10 : decode cX9_isPush 10 = .ok (.ireturn, 1) := by decide +kernel
theorem dX9_isRow_0 : decode cX9_isRow 0 = .ok (.iload_n 0, 1) := by decide +kernel
theorem dX9_isRow_1 : decode cX9_isRow 1 = .ok (.iconst 0, 1) := by decide +kernel
theorem dX9_isRow_2 : decode cX9_isRow 2 = .ok (.iconst 1, 1) := by decide +kernel
theorem dX9_isRow_3 : decode cX9_isRow 3 = .ok (.invokestatic 102, 3) := by decide +kernel
theorem dX9_isRow_6 : decode cX9_isRow 6 = .ok (.ireturn, 1) := by decide +kernel
theorem dX9_isWalk_0 : decode cX9_isWalk 0 = .ok (.iload_n 0, 1) := by decide +kernel
theorem dX9_isWalk_1 : decode cX9_isWalk 1 = .ok (.iconst 0, 1) := by decide +kernel
theorem dX9_isWalk_2 : decode cX9_isWalk 2 = .ok (.iconst 3, 1) := by decide +kernel
theorem dX9_isWalk_3 : decode cX9_isWalk 3 = .ok (.invokestatic 102, 3) := by decide +kernel
theorem dX9_isWalk_6 : decode cX9_isWalk 6 = .ok (.ireturn, 1) := by decide +kernel
theorem dX9_isGap_0 : decode cX9_isGap 0 = .ok (.iload_n 1, 1) := by decide +kernel
theorem dX9_isGap_1 : decode cX9_isGap 1 = .ok (.iconst 0, 1) := by decide +kernel
theorem dX9_isGap_2 : decode cX9_isGap 2 = .ok (.aload_n 0, 1) := by decide +kernel
theorem dX9_isGap_3 : decode cX9_isGap 3 = .ok (.getfield 10, 3) := by decide +kernel
theorem dX9_isGap_6 : decode cX9_isGap 6 = .ok (.getfield 106, 3) := by decide +kernel
theorem dX9_isGap_9 : decode cX9_isGap 9 = .ok (.iconst 1, 1) := by decide +kernel
theorem dX9_isGap_10 : decode cX9_isGap 10 = .ok (.isub, 1) := by decide +kernel
theorem dX9_isGap_11 : decode cX9_isGap 11 = .ok (.invokestatic 102, 3) := by decide +kernel
theorem dX9_isGap_14 : decode cX9_isGap 14 = .ok (.ireturn, 1) := by decide +kernel
theorem dX9_isHand_0 : decode cX9_isHand 0 = .ok (.iload_n 1, 1) := by decide +kernel
theorem dX9_isHand_1 : decode cX9_isHand 1 = .ok (.iconst 3, 1) := by decide +kernel
theorem dX9_isHand_2 : decode cX9_isHand 2 = .ok (.if_icmp .eq 11, 3) := by decide +kernel
theorem dX9_isHand_5 : decode cX9_isHand 5 = .ok (.aload_n 0, 1) := by decide +kernel
theorem dX9_isHand_6 : decode cX9_isHand 6 = .ok (.iload_n 1, 1) := by decide +kernel
theorem dX9_isHand_7 : decode cX9_isHand 7 = .ok (.invokevirtual 208, 3) := by decide +kernel
theorem dX9_isHand_10 : decode cX9_isHand 10 = .ok (.ifnull 7, 3) := by decide +kernel
theorem dX9_isHand_13 : decode cX9_isHand 13 = .ok (.iconst 1, 1) := by decide +kernel
theorem dX9_isHand_14 : decode cX9_isHand 14 = .ok (.goto 4, 3) := by decide +kernel
theorem dX9_isHand_17 : decode cX9_isHand 17 = .ok (.iconst 0, 1) := by decide +kernel
theorem dX9_isHand_18 : decode cX9_isHand 18 = .ok (.ireturn, 1) := by decide +kernel
theorem dX9_toldLaw_0 : decode cX9_toldLaw 0 = .ok (.iload_n 1, 1) := by decide +kernel
theorem dX9_toldLaw_1 : decode cX9_toldLaw 1 = .ok (.iconst 0, 1) := by decide +kernel
theorem dX9_toldLaw_2 : decode cX9_toldLaw 2 = .ok (.iconst 2, 1) := by decide +kernel
theorem dX9_toldLaw_3 : decode cX9_toldLaw 3 = .ok (.invokestatic 102, 3) := by decide +kernel
theorem dX9_toldLaw_6 : decode cX9_toldLaw 6 = .ok (.ifCond .eq 24, 3) := by decide +kernel
theorem dX9_toldLaw_9 : decode cX9_toldLaw 9 = .ok (.aload_n 0, 1) := by decide +kernel
theorem dX9_toldLaw_10 : decode cX9_toldLaw 10 = .ok (.getfield 55, 3) := by decide +kernel
theorem dX9_toldLaw_13 : decode cX9_toldLaw 13 = .ok (.iload_n 1, 1) := by decide +kernel
theorem dX9_toldLaw_14 : decode cX9_toldLaw 14 = .ok (.aaload, 1) := by decide +kernel
theorem dX9_toldLaw_15 : decode cX9_toldLaw 15 = .ok (.getfield 419, 3) := by decide +kernel
theorem dX9_toldLaw_18 : decode cX9_toldLaw 18 = .ok (.ifCond .le 12, 3) := by decide +kernel
theorem dX9_toldLaw_21 : decode cX9_toldLaw 21 = .ok (.aload_n 0, 1) := by decide +kernel
theorem dX9_toldLaw_22 : decode cX9_toldLaw 22 = .ok (.getfield 55, 3) := by decide +kernel
theorem dX9_toldLaw_25 : decode cX9_toldLaw 25 = .ok (.iload_n 1, 1) := by decide +kernel
theorem dX9_toldLaw_26 : decode cX9_toldLaw 26 = .ok (.aaload, 1) := by decide +kernel
theorem dX9_toldLaw_27 : decode cX9_toldLaw 27 = .ok (.goto 4, 3) := by decide +kernel
theorem dX9_toldLaw_30 : decode cX9_toldLaw 30 = .ok (.aconst_null, 1) := by decide +kernel
theorem dX9_toldLaw_31 : decode cX9_toldLaw 31 = .ok (.areturn, 1) := by decide +kernel
theorem dX9_asItIs_0 : decode cX9_asItIs 0 = .ok (.aload_n 0, 1) := by decide +kernel
theorem dX9_asItIs_1 : decode cX9_asItIs 1 = .ok (.getfield 67, 3) := by decide +kernel
theorem dX9_asItIs_4 : decode cX9_asItIs 4 = .ok (.getfield 264, 3) := by decide +kernel
theorem dX9_asItIs_7 : decode cX9_asItIs 7 = .ok (.aload_n 0, 1) := by decide +kernel
theorem dX9_asItIs_8 : decode cX9_asItIs 8 = .ok (.getfield 10, 3) := by decide +kernel
theorem dX9_asItIs_11 : decode cX9_asItIs 11 = .ok (.invokevirtual 422, 3) := by decide +kernel
theorem dX9_asItIs_14 : decode cX9_asItIs 14 = .ok (.aload_n 0, 1) := by decide +kernel
theorem dX9_asItIs_15 : decode cX9_asItIs 15 = .ok (.getfield 67, 3) := by decide +kernel
theorem dX9_asItIs_18 : decode cX9_asItIs 18 = .ok (.aload_n 0, 1) := by decide +kernel
theorem dX9_asItIs_19 : decode cX9_asItIs 19 = .ok (.aload_n 0, 1) := by decide +kernel
theorem dX9_asItIs_20 : decode cX9_asItIs 20 = .ok (.getfield 10, 3) := by decide +kernel
theorem dX9_asItIs_23 : decode cX9_asItIs 23 = .ok (.getfield 124, 3) := by decide +kernel
theorem dX9_asItIs_26 : decode cX9_asItIs 26 = .ok (.bipush 6, 2) := by decide +kernel
theorem dX9_asItIs_28 : decode cX9_asItIs 28 = .ok (.iaload, 1) := by decide +kernel
theorem dX9_asItIs_29 : decode cX9_asItIs 29 = .ok (.invokevirtual 208, 3) := by decide +kernel
theorem dX9_asItIs_32 : decode cX9_asItIs 32 = .ok (.putfield 321, 3) := by decide +kernel
theorem dX9_asItIs_35 : decode cX9_asItIs 35 = .ok (.aload_n 0, 1) := by decide +kernel
theorem dX9_asItIs_36 : decode cX9_asItIs 36 = .ok (.getfield 67, 3) := by decide +kernel
theorem dX9_asItIs_39 : decode cX9_asItIs 39 = .ok (.areturn, 1) := by decide +kernel
theorem dX9_tell_0 : decode cX9_tell 0 = .ok (.aload_n 0, 1) := by decide +kernel
theorem dX9_tell_1 : decode cX9_tell 1 = .ok (.iconst 0, 1) := by decide +kernel
theorem dX9_tell_2 : decode cX9_tell 2 = .ok (.putfield 95, 3) := by decide +kernel
theorem dX9_tell_5 : decode cX9_tell 5 = .ok (.aload_n 0, 1) := by decide +kernel
theorem dX9_tell_6 : decode cX9_tell 6 = .ok (.lload_n 1, 1) := by decide +kernel
theorem dX9_tell_7 : decode cX9_tell 7 = .ok (.invokevirtual 297, 3) := by decide +kernel
theorem dX9_tell_10 : decode cX9_tell 10 = .ok (.return_, 1) := by decide +kernel
theorem dX9_tell__0 : decode cX9_tell_ 0 = .ok (.aload_n 0, 1) := by decide +kernel
theorem dX9_tell__1 : decode cX9_tell_ 1 = .ok (.lload_n 1, 1) := by decide +kernel
theorem dX9_tell__2 : decode cX9_tell_ 2 = .ok (.invokevirtual 272, 3) := by decide +kernel
theorem dX9_tell__5 : decode cX9_tell_ 5 = .ok (.aload_n 0, 1) := by decide +kernel
theorem dX9_tell__6 : decode cX9_tell_ 6 = .ok (.lload_n 3, 1) := by decide +kernel
theorem dX9_tell__7 : decode cX9_tell_ 7 = .ok (.invokevirtual 297, 3) := by decide +kernel
theorem dX9_tell__10 : decode cX9_tell_ 10 = .ok (.return_, 1) := by decide +kernel
theorem dX9_tell___0 : decode cX9_tell__ 0 = .ok (.aload_n 0, 1) := by decide +kernel
theorem dX9_tell___1 : decode cX9_tell__ 1 = .ok (.lload_n 1, 1) := by decide +kernel
theorem dX9_tell___2 : decode cX9_tell__ 2 = .ok (.lload_n 3, 1) := by decide +kernel
theorem dX9_tell___3 : decode cX9_tell__ 3 = .ok (.invokevirtual 250, 3) := by decide +kernel
theorem dX9_tell___6 : decode cX9_tell__ 6 = .ok (.aload_n 0, 1) := by decide +kernel
theorem dX9_tell___7 : decode cX9_tell__ 7 = .ok (.lload 5, 2) := by decide +kernel
theorem dX9_tell___9 : decode cX9_tell__ 9 = .ok (.invokevirtual 297, 3) := by decide +kernel
theorem dX9_tell___12 : decode cX9_tell__ 12 = .ok (.return_, 1) := by decide +kernel
theorem dX9_tellFraction_0 : decode cX9_tellFraction 0 = .ok (.iload_n 1, 1) := by decide +kernel
theorem dX9_tellFraction_1 : decode cX9_tellFraction 1 = .ok (.invokestatic 253, 3) := by decide +kernel
theorem dX9_tellFraction_4 : decode cX9_tellFraction 4 = .ok (.iload_n 2, 1) := by decide +kernel
theorem dX9_tellFraction_5 : decode cX9_tellFraction 5 = .ok (.invokestatic 424, 3) := by decide +kernel
theorem dX9_tellFraction_8 : decode cX9_tellFraction 8 = .ok (.istore_n 3, 1) := by decide +kernel
theorem dX9_tellFraction_9 : decode cX9_tellFraction 9 = .ok (.aload_n 0, 1) := by decide +kernel
theorem dX9_tellFraction_10 : decode cX9_tellFraction 10 = .ok (.iload_n 3, 1) := by decide +kernel
theorem dX9_tellFraction_11 : decode cX9_tellFraction 11 = .ok (.ifCond .ne 7, 3) := by decide +kernel
theorem dX9_tellFraction_14 : decode cX9_tellFraction 14 = .ok (.lconst 0, 1) := by decide +kernel
theorem dX9_tellFraction_15 : decode cX9_tellFraction 15 = .ok (.goto 7, 3) := by decide +kernel
theorem dX9_tellFraction_18 : decode cX9_tellFraction 18 = .ok (.iload_n 1, 1) := by decide +kernel
theorem dX9_tellFraction_19 : decode cX9_tellFraction 19 = .ok (.iload_n 3, 1) := by decide +kernel
theorem dX9_tellFraction_20 : decode cX9_tellFraction 20 = .ok (.idiv, 1) := by decide +kernel
theorem dX9_tellFraction_21 : decode cX9_tellFraction 21 = .ok (.i2l, 1) := by decide +kernel
theorem dX9_tellFraction_22 : decode cX9_tellFraction 22 = .ok (.invokevirtual 297, 3) := by decide +kernel
theorem dX9_tellFraction_25 : decode cX9_tellFraction 25 = .ok (.aload_n 0, 1) := by decide +kernel
theorem dX9_tellFraction_26 : decode cX9_tellFraction 26 = .ok (.iload_n 3, 1) := by decide +kernel
theorem dX9_tellFraction_27 : decode cX9_tellFraction 27 = .ok (.ifCond .ne 7, 3) := by decide +kernel
theorem dX9_tellFraction_30 : decode cX9_tellFraction 30 = .ok (.lconst 1, 1) := by decide +kernel
theorem dX9_tellFraction_31 : decode cX9_tellFraction 31 = .ok (.goto 7, 3) := by decide +kernel
theorem dX9_tellFraction_34 : decode cX9_tellFraction 34 = .ok (.iload_n 2, 1) := by decide +kernel
theorem dX9_tellFraction_35 : decode cX9_tellFraction 35 = .ok (.iload_n 3, 1) := by decide +kernel
theorem dX9_tellFraction_36 : decode cX9_tellFraction 36 = .ok (.idiv, 1) := by decide +kernel
theorem dX9_tellFraction_37 : decode cX9_tellFraction 37 = .ok (.i2l, 1) := by decide +kernel
theorem dX9_tellFraction_38 : decode cX9_tellFraction 38 = .ok (.invokevirtual 297, 3) := by decide +kernel
theorem dX9_tellFraction_41 : decode cX9_tellFraction 41 = .ok (.return_, 1) := by decide +kernel
theorem dX9_tellMore_0 : decode cX9_tellMore 0 = .ok (.aload_n 0, 1) := by decide +kernel
theorem dX9_tellMore_1 : decode cX9_tellMore 1 = .ok (.getfield 95, 3) := by decide +kernel
theorem dX9_tellMore_4 : decode cX9_tellMore 4 = .ok (.aload_n 0, 1) := by decide +kernel
theorem dX9_tellMore_5 : decode cX9_tellMore 5 = .ok (.getfield 91, 3) := by decide +kernel
theorem dX9_tellMore_8 : decode cX9_tellMore 8 = .ok (.arraylength, 1) := by decide +kernel
theorem dX9_tellMore_9 : decode cX9_tellMore 9 = .ok (.if_icmp .ge 23, 3) := by decide +kernel
theorem dX9_tellMore_12 : decode cX9_tellMore 12 = .ok (.aload_n 0, 1) := by decide +kernel
theorem dX9_tellMore_13 : decode cX9_tellMore 13 = .ok (.getfield 91, 3) := by decide +kernel
theorem dX9_tellMore_16 : decode cX9_tellMore 16 = .ok (.aload_n 0, 1) := by decide +kernel
theorem dX9_tellMore_17 : decode cX9_tellMore 17 = .ok (.getfield 95, 3) := by decide +kernel
theorem dX9_tellMore_20 : decode cX9_tellMore 20 = .ok (.lload_n 1, 1) := by decide +kernel
theorem dX9_tellMore_21 : decode cX9_tellMore 21 = .ok (.lastore, 1) := by decide +kernel
theorem dX9_tellMore_22 : decode cX9_tellMore 22 = .ok (.aload_n 0, 1) := by decide +kernel
theorem dX9_tellMore_23 : decode cX9_tellMore 23 = .ok (.dup, 1) := by decide +kernel
theorem dX9_tellMore_24 : decode cX9_tellMore 24 = .ok (.getfield 95, 3) := by decide +kernel
theorem dX9_tellMore_27 : decode cX9_tellMore 27 = .ok (.iconst 1, 1) := by decide +kernel
theorem dX9_tellMore_28 : decode cX9_tellMore 28 = .ok (.iadd, 1) := by decide +kernel
theorem dX9_tellMore_29 : decode cX9_tellMore 29 = .ok (.putfield 95, 3) := by decide +kernel
theorem dX9_tellMore_32 : decode cX9_tellMore 32 = .ok (.return_, 1) := by decide +kernel
theorem dX9_commonDivisor_0 : decode cX9_commonDivisor 0 = .ok (.iload_n 0, 1) := by decide +kernel
theorem dX9_commonDivisor_1 : decode cX9_commonDivisor 1 = .ok (.istore_n 2, 1) := by decide +kernel
theorem dX9_commonDivisor_2 : decode cX9_commonDivisor 2 = .ok (.iload_n 1, 1) := by decide +kernel
theorem dX9_commonDivisor_3 : decode cX9_commonDivisor 3 = .ok (.istore_n 3, 1) := by decide +kernel
theorem dX9_commonDivisor_4 : decode cX9_commonDivisor 4 = .ok (.iconst 0, 1) := by decide +kernel
theorem dX9_commonDivisor_5 : decode cX9_commonDivisor 5 = .ok (.istore 4, 2) := by decide +kernel
theorem dX9_commonDivisor_7 : decode cX9_commonDivisor 7 = .ok (.iload 4, 2) := by decide +kernel
theorem dX9_commonDivisor_9 : decode cX9_commonDivisor 9 = .ok (.bipush 100, 2) := by decide +kernel
theorem dX9_commonDivisor_11 : decode cX9_commonDivisor 11 = .ok (.if_icmp .ge 23, 3) := by decide +kernel
theorem dX9_commonDivisor_14 : decode cX9_commonDivisor 14 = .ok (.iload_n 3, 1) := by decide +kernel
theorem dX9_commonDivisor_15 : decode cX9_commonDivisor 15 = .ok (.ifCond .le 19, 3) := by decide +kernel
theorem dX9_commonDivisor_18 : decode cX9_commonDivisor 18 = .ok (.iload_n 2, 1) := by decide +kernel
theorem dX9_commonDivisor_19 : decode cX9_commonDivisor 19 = .ok (.iload_n 3, 1) := by decide +kernel
theorem dX9_commonDivisor_20 : decode cX9_commonDivisor 20 = .ok (.irem, 1) := by decide +kernel
theorem dX9_commonDivisor_21 : decode cX9_commonDivisor 21 = .ok (.istore 5, 2) := by decide +kernel
theorem dX9_commonDivisor_23 : decode cX9_commonDivisor 23 = .ok (.iload_n 3, 1) := by decide +kernel
theorem dX9_commonDivisor_24 : decode cX9_commonDivisor 24 = .ok (.istore_n 2, 1) := by decide +kernel
theorem dX9_commonDivisor_25 : decode cX9_commonDivisor 25 = .ok (.iload 5, 2) := by decide +kernel
theorem dX9_commonDivisor_27 : decode cX9_commonDivisor 27 = .ok (.istore_n 3, 1) := by decide +kernel
theorem dX9_commonDivisor_28 : decode cX9_commonDivisor 28 = .ok (.iinc 4 1, 3) := by decide +kernel
theorem dX9_commonDivisor_31 : decode cX9_commonDivisor 31 = .ok (.goto (-24), 3) := by decide +kernel
theorem dX9_commonDivisor_34 : decode cX9_commonDivisor 34 = .ok (.iload_n 2, 1) := by decide +kernel
theorem dX9_commonDivisor_35 : decode cX9_commonDivisor 35 = .ok (.ireturn, 1) := by decide +kernel
theorem dJ9_floorMod_7cf53_0 : decode cJ9_floorMod_7cf53 0 = .ok (.iload_n 0, 1) := by decide +kernel
theorem dJ9_floorMod_7cf53_1 : decode cJ9_floorMod_7cf53 1 = .ok (.iload_n 1, 1) := by decide +kernel
theorem dJ9_floorMod_7cf53_2 : decode cJ9_floorMod_7cf53 2 = .ok (.irem, 1) := by decide +kernel
theorem dJ9_floorMod_7cf53_3 : decode cJ9_floorMod_7cf53 3 = .ok (.istore_n 2, 1) := by decide +kernel
theorem dJ9_floorMod_7cf53_4 : decode cJ9_floorMod_7cf53 4 = .ok (.iload_n 0, 1) := by decide +kernel
theorem dJ9_floorMod_7cf53_5 : decode cJ9_floorMod_7cf53 5 = .ok (.iload_n 1, 1) := by decide +kernel
theorem dJ9_floorMod_7cf53_6 : decode cJ9_floorMod_7cf53 6 = .ok (.ixor, 1) := by decide +kernel
theorem dJ9_floorMod_7cf53_7 : decode cJ9_floorMod_7cf53 7 = .ok (.ifCond .ge 11, 3) := by decide +kernel
theorem dJ9_floorMod_7cf53_10 : decode cJ9_floorMod_7cf53 10 = .ok (.iload_n 2, 1) := by decide +kernel
theorem dJ9_floorMod_7cf53_11 : decode cJ9_floorMod_7cf53 11 = .ok (.ifCond .eq 7, 3) := by decide +kernel
theorem dJ9_floorMod_7cf53_14 : decode cJ9_floorMod_7cf53 14 = .ok (.iload_n 2, 1) := by decide +kernel
theorem dJ9_floorMod_7cf53_15 : decode cJ9_floorMod_7cf53 15 = .ok (.iload_n 1, 1) := by decide +kernel
theorem dJ9_floorMod_7cf53_16 : decode cJ9_floorMod_7cf53 16 = .ok (.iadd, 1) := by decide +kernel
theorem dJ9_floorMod_7cf53_17 : decode cJ9_floorMod_7cf53 17 = .ok (.ireturn, 1) := by decide +kernel
theorem dJ9_floorMod_7cf53_18 : decode cJ9_floorMod_7cf53 18 = .ok (.iload_n 2, 1) := by decide +kernel
theorem dJ9_floorMod_7cf53_19 : decode cJ9_floorMod_7cf53 19 = .ok (.ireturn, 1) := by decide +kernel
theorem dJ9_abs_0f7a4_0 : decode cJ9_abs_0f7a4 0 = .ok (.iload_n 0, 1) := by decide +kernel
theorem dJ9_abs_0f7a4_1 : decode cJ9_abs_0f7a4 1 = .ok (.ifCond .ge 8, 3) := by decide +kernel
theorem dJ9_abs_0f7a4_4 : decode cJ9_abs_0f7a4 4 = .ok (.iload_n 0, 1) := by decide +kernel
theorem dJ9_abs_0f7a4_5 : decode cJ9_abs_0f7a4 5 = .ok (.ineg, 1) := by decide +kernel
theorem dJ9_abs_0f7a4_6 : decode cJ9_abs_0f7a4 6 = .ok (.goto 4, 3) := by decide +kernel
theorem dJ9_abs_0f7a4_9 : decode cJ9_abs_0f7a4 9 = .ok (.iload_n 0, 1) := by decide +kernel
theorem dJ9_abs_0f7a4_10 : decode cJ9_abs_0f7a4 10 = .ok (.ireturn, 1) := by decide +kernel
theorem dJ9_abs_067f4_0 : decode cJ9_abs_067f4 0 = .ok (.lload_n 0, 1) := by decide +kernel
theorem dJ9_abs_067f4_1 : decode cJ9_abs_067f4 1 = .ok (.lconst 0, 1) := by decide +kernel
theorem dJ9_abs_067f4_2 : decode cJ9_abs_067f4 2 = .ok (.lcmp, 1) := by decide +kernel
theorem dJ9_abs_067f4_3 : decode cJ9_abs_067f4 3 = .ok (.ifCond .ge 8, 3) := by decide +kernel
theorem dJ9_abs_067f4_6 : decode cJ9_abs_067f4 6 = .ok (.lload_n 0, 1) := by decide +kernel
theorem dJ9_abs_067f4_7 : decode cJ9_abs_067f4 7 = .ok (.lneg, 1) := by decide +kernel
theorem dJ9_abs_067f4_8 : decode cJ9_abs_067f4 8 = .ok (.goto 4, 3) := by decide +kernel
theorem dJ9_abs_067f4_11 : decode cJ9_abs_067f4 11 = .ok (.lload_n 0, 1) := by decide +kernel
theorem dJ9_abs_067f4_12 : decode cJ9_abs_067f4 12 = .ok (.lreturn, 1) := by decide +kernel
theorem dJ9_max_7cf53_0 : decode cJ9_max_7cf53 0 = .ok (.iload_n 0, 1) := by decide +kernel
theorem dJ9_max_7cf53_1 : decode cJ9_max_7cf53 1 = .ok (.iload_n 1, 1) := by decide +kernel
theorem dJ9_max_7cf53_2 : decode cJ9_max_7cf53 2 = .ok (.if_icmp .lt 7, 3) := by decide +kernel
theorem dJ9_max_7cf53_5 : decode cJ9_max_7cf53 5 = .ok (.iload_n 0, 1) := by decide +kernel
theorem dJ9_max_7cf53_6 : decode cJ9_max_7cf53 6 = .ok (.goto 4, 3) := by decide +kernel
theorem dJ9_max_7cf53_9 : decode cJ9_max_7cf53 9 = .ok (.iload_n 1, 1) := by decide +kernel
theorem dJ9_max_7cf53_10 : decode cJ9_max_7cf53 10 = .ok (.ireturn, 1) := by decide +kernel
theorem dJ9_min_7cf53_0 : decode cJ9_min_7cf53 0 = .ok (.iload_n 0, 1) := by decide +kernel
theorem dJ9_min_7cf53_1 : decode cJ9_min_7cf53 1 = .ok (.iload_n 1, 1) := by decide +kernel
theorem dJ9_min_7cf53_2 : decode cJ9_min_7cf53 2 = .ok (.if_icmp .gt 7, 3) := by decide +kernel
theorem dJ9_min_7cf53_5 : decode cJ9_min_7cf53 5 = .ok (.iload_n 0, 1) := by decide +kernel
theorem dJ9_min_7cf53_6 : decode cJ9_min_7cf53 6 = .ok (.goto 4, 3) := by decide +kernel
theorem dJ9_min_7cf53_9 : decode cJ9_min_7cf53 9 = .ok (.iload_n 1, 1) := by decide +kernel
theorem dJ9_min_7cf53_10 : decode cJ9_min_7cf53 10 = .ok (.ireturn, 1) := by decide +kernel
theorem dJ7_fill_53178_0 : decode cJ7_fill_53178 0 = .ok (.iconst 0, 1) := by decide +kernel
theorem dJ7_fill_53178_1 : decode cJ7_fill_53178 1 = .ok (.istore_n 2, 1) := by decide +kernel
theorem dJ7_fill_53178_2 : decode cJ7_fill_53178 2 = .ok (.aload_n 0, 1) := by decide +kernel
theorem dJ7_fill_53178_3 : decode cJ7_fill_53178 3 = .ok (.arraylength, 1) := by decide +kernel
theorem dJ7_fill_53178_4 : decode cJ7_fill_53178 4 = .ok (.istore_n 3, 1) := by decide +kernel
theorem dJ7_fill_53178_5 : decode cJ7_fill_53178 5 = .ok (.iload_n 2, 1) := by decide +kernel
theorem dJ7_fill_53178_6 : decode cJ7_fill_53178 6 = .ok (.iload_n 3, 1) := by decide +kernel
theorem dJ7_fill_53178_7 : decode cJ7_fill_53178 7 = .ok (.if_icmp .ge 13, 3) := by decide +kernel
theorem dJ7_fill_53178_10 : decode cJ7_fill_53178 10 = .ok (.aload_n 0, 1) := by decide +kernel
theorem dJ7_fill_53178_11 : decode cJ7_fill_53178 11 = .ok (.iload_n 2, 1) := by decide +kernel
theorem dJ7_fill_53178_12 : decode cJ7_fill_53178 12 = .ok (.iload_n 1, 1) := by decide +kernel
theorem dJ7_fill_53178_13 : decode cJ7_fill_53178 13 = .ok (.iastore, 1) := by decide +kernel
theorem dJ7_fill_53178_14 : decode cJ7_fill_53178 14 = .ok (.iinc 2 1, 3) := by decide +kernel
theorem dJ7_fill_53178_17 : decode cJ7_fill_53178 17 = .ok (.goto (-12), 3) := by decide +kernel
theorem dJ7_fill_53178_20 : decode cJ7_fill_53178 20 = .ok (.return_, 1) := by decide +kernel
