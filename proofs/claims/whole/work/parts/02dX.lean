theorem dX0_init_0 : decode cX0_init 0 = .ok (.aload_n 0, 1) := by decide +kernel
theorem dX0_init_1 : decode cX0_init 1 = .ok (.invokespecial 3, 3) := by decide +kernel
theorem dX0_init_4 : decode cX0_init 4 = .ok (.aload_n 0, 1) := by decide +kernel
theorem dX0_init_5 : decode cX0_init 5 = .ok (.bipush 30, 2) := by decide +kernel
theorem dX0_init_7 : decode cX0_init 7 = .ok (.newarray .int, 2) := by decide +kernel
theorem dX0_init_9 : decode cX0_init 9 = .ok (.putfield 9, 3) := by decide +kernel
theorem dX0_init_12 : decode cX0_init 12 = .ok (.aload_n 0, 1) := by decide +kernel
theorem dX0_init_13 : decode cX0_init 13 = .ok (.bipush 30, 2) := by decide +kernel
theorem dX0_init_15 : decode cX0_init 15 = .ok (.newarray .int, 2) := by decide +kernel
theorem dX0_init_17 : decode cX0_init 17 = .ok (.putfield 15, 3) := by decide +kernel
theorem dX0_init_20 : decode cX0_init 20 = .ok (.aload_n 0, 1) := by decide +kernel
theorem dX0_init_21 : decode cX0_init 21 = .ok (.bipush 30, 2) := by decide +kernel
theorem dX0_init_23 : decode cX0_init 23 = .ok (.newarray .int, 2) := by decide +kernel
theorem dX0_init_25 : decode cX0_init 25 = .ok (.putfield 18, 3) := by decide +kernel
theorem dX0_init_28 : decode cX0_init 28 = .ok (.aload_n 0, 1) := by decide +kernel
theorem dX0_init_29 : decode cX0_init 29 = .ok (.bipush 20, 2) := by decide +kernel
theorem dX0_init_31 : decode cX0_init 31 = .ok (.newarray .int, 2) := by decide +kernel
theorem dX0_init_33 : decode cX0_init 33 = .ok (.putfield 21, 3) := by decide +kernel
theorem dX0_init_36 : decode cX0_init 36 = .ok (.return_, 1) := by decide +kernel
theorem dX0_add_0 : decode cX0_add 0 = .ok (.aload_n 0, 1) := by decide +kernel
theorem dX0_add_1 : decode cX0_add 1 = .ok (.getfield 24, 3) := by decide +kernel
theorem dX0_add_4 : decode cX0_add 4 = .ok (.bipush 30, 2) := by decide +kernel
theorem dX0_add_6 : decode cX0_add 6 = .ok (.if_icmp .ge 51, 3) := by decide +kernel
theorem dX0_add_9 : decode cX0_add 9 = .ok (.aload_n 0, 1) := by decide +kernel
theorem dX0_add_10 : decode cX0_add 10 = .ok (.getfield 9, 3) := by decide +kernel
theorem dX0_add_13 : decode cX0_add 13 = .ok (.aload_n 0, 1) := by decide +kernel
theorem dX0_add_14 : decode cX0_add 14 = .ok (.getfield 24, 3) := by decide +kernel
theorem dX0_add_17 : decode cX0_add 17 = .ok (.iload_n 1, 1) := by decide +kernel
theorem dX0_add_18 : decode cX0_add 18 = .ok (.iastore, 1) := by decide +kernel
theorem dX0_add_19 : decode cX0_add 19 = .ok (.aload_n 0, 1) := by decide +kernel
theorem dX0_add_20 : decode cX0_add 20 = .ok (.getfield 15, 3) := by decide +kernel
theorem dX0_add_23 : decode cX0_add 23 = .ok (.aload_n 0, 1) := by decide +kernel
theorem dX0_add_24 : decode cX0_add 24 = .ok (.getfield 24, 3) := by decide +kernel
theorem dX0_add_27 : decode cX0_add 27 = .ok (.iload_n 2, 1) := by decide +kernel
theorem dX0_add_28 : decode cX0_add 28 = .ok (.iastore, 1) := by decide +kernel
theorem dX0_add_29 : decode cX0_add 29 = .ok (.aload_n 0, 1) := by decide +kernel
theorem dX0_add_30 : decode cX0_add 30 = .ok (.getfield 18, 3) := by decide +kernel
theorem dX0_add_33 : decode cX0_add 33 = .ok (.aload_n 0, 1) := by decide +kernel
theorem dX0_add_34 : decode cX0_add 34 = .ok (.getfield 24, 3) := by decide +kernel
theorem dX0_add_37 : decode cX0_add 37 = .ok (.iload_n 3, 1) := by decide +kernel
theorem dX0_add_38 : decode cX0_add 38 = .ok (.iastore, 1) := by decide +kernel
theorem dX0_add_39 : decode cX0_add 39 = .ok (.aload_n 0, 1) := by decide +kernel
theorem dX0_add_40 : decode cX0_add 40 = .ok (.aload_n 0, 1) := by decide +kernel
theorem dX0_add_41 : decode cX0_add 41 = .ok (.getfield 24, 3) := by decide +kernel
theorem dX0_add_44 : decode cX0_add 44 = .ok (.invokevirtual 28, 3) := by decide +kernel
theorem dX0_add_47 : decode cX0_add 47 = .ok (.aload_n 0, 1) := by decide +kernel
theorem dX0_add_48 : decode cX0_add 48 = .ok (.dup, 1) := by decide +kernel
theorem dX0_add_49 : decode cX0_add 49 = .ok (.getfield 24, 3) := by decide +kernel
theorem dX0_add_52 : decode cX0_add 52 = .ok (.iconst 1, 1) := by decide +kernel
theorem dX0_add_53 : decode cX0_add 53 = .ok (.iadd, 1) := by decide +kernel
theorem dX0_add_54 : decode cX0_add 54 = .ok (.putfield 24, 3) := by decide +kernel
theorem dX0_add_57 : decode cX0_add 57 = .ok (.return_, 1) := by decide +kernel
theorem dX0_keepFirst_0 : decode cX0_keepFirst 0 = .ok (.aload_n 0, 1) := by decide +kernel
theorem dX0_keepFirst_1 : decode cX0_keepFirst 1 = .ok (.iload_n 1, 1) := by decide +kernel
theorem dX0_keepFirst_2 : decode cX0_keepFirst 2 = .ok (.putfield 24, 3) := by decide +kernel
theorem dX0_keepFirst_5 : decode cX0_keepFirst 5 = .ok (.aload_n 0, 1) := by decide +kernel
theorem dX0_keepFirst_6 : decode cX0_keepFirst 6 = .ok (.invokevirtual 32, 3) := by decide +kernel
theorem dX0_keepFirst_9 : decode cX0_keepFirst 9 = .ok (.return_, 1) := by decide +kernel
theorem dX0_repeat_0 : decode cX0_repeat 0 = .ok (.aload_n 0, 1) := by decide +kernel
theorem dX0_repeat_1 : decode cX0_repeat 1 = .ok (.aload_n 1, 1) := by decide +kernel
theorem dX0_repeat_2 : decode cX0_repeat 2 = .ok (.getfield 24, 3) := by decide +kernel
theorem dX0_repeat_5 : decode cX0_repeat 5 = .ok (.putfield 24, 3) := by decide +kernel
theorem dX0_repeat_8 : decode cX0_repeat 8 = .ok (.aload_n 1, 1) := by decide +kernel
theorem dX0_repeat_9 : decode cX0_repeat 9 = .ok (.getfield 9, 3) := by decide +kernel
theorem dX0_repeat_12 : decode cX0_repeat 12 = .ok (.iconst 0, 1) := by decide +kernel
theorem dX0_repeat_13 : decode cX0_repeat 13 = .ok (.aload_n 0, 1) := by decide +kernel
theorem dX0_repeat_14 : decode cX0_repeat 14 = .ok (.getfield 9, 3) := by decide +kernel
theorem dX0_repeat_17 : decode cX0_repeat 17 = .ok (.iconst 0, 1) := by decide +kernel
theorem dX0_repeat_18 : decode cX0_repeat 18 = .ok (.bipush 30, 2) := by decide +kernel
theorem dX0_repeat_20 : decode cX0_repeat 20 = .ok (.invokestatic 35, 3) := by decide +kernel
theorem dX0_repeat_23 : decode cX0_repeat 23 = .ok (.aload_n 1, 1) := by decide +kernel
theorem dX0_repeat_24 : decode cX0_repeat 24 = .ok (.getfield 15, 3) := by decide +kernel
theorem dX0_repeat_27 : decode cX0_repeat 27 = .ok (.iconst 0, 1) := by decide +kernel
theorem dX0_repeat_28 : decode cX0_repeat 28 = .ok (.aload_n 0, 1) := by decide +kernel
theorem dX0_repeat_29 : decode cX0_repeat 29 = .ok (.getfield 15, 3) := by decide +kernel
theorem dX0_repeat_32 : decode cX0_repeat 32 = .ok (.iconst 0, 1) := by decide +kernel
theorem dX0_repeat_33 : decode cX0_repeat 33 = .ok (.bipush 30, 2) := by decide +kernel
theorem dX0_repeat_35 : decode cX0_repeat 35 = .ok (.invokestatic 35, 3) := by decide +kernel
theorem dX0_repeat_38 : decode cX0_repeat 38 = .ok (.aload_n 1, 1) := by decide +kernel
theorem dX0_repeat_39 : decode cX0_repeat 39 = .ok (.getfield 18, 3) := by decide +kernel
theorem dX0_repeat_42 : decode cX0_repeat 42 = .ok (.iconst 0, 1) := by decide +kernel
theorem dX0_repeat_43 : decode cX0_repeat 43 = .ok (.aload_n 0, 1) := by decide +kernel
theorem dX0_repeat_44 : decode cX0_repeat 44 = .ok (.getfield 18, 3) := by decide +kernel
theorem dX0_repeat_47 : decode cX0_repeat 47 = .ok (.iconst 0, 1) := by decide +kernel
theorem dX0_repeat_48 : decode cX0_repeat 48 = .ok (.bipush 30, 2) := by decide +kernel
theorem dX0_repeat_50 : decode cX0_repeat 50 = .ok (.invokestatic 35, 3) := by decide +kernel
theorem dX0_repeat_53 : decode cX0_repeat 53 = .ok (.aload_n 0, 1) := by decide +kernel
theorem dX0_repeat_54 : decode cX0_repeat 54 = .ok (.invokevirtual 32, 3) := by decide +kernel
theorem dX0_repeat_57 : decode cX0_repeat 57 = .ok (.return_, 1) := by decide +kernel
theorem dX0_noteAll_0 : decode cX0_noteAll 0 = .ok (.aload_n 0, 1) := by decide +kernel
theorem dX0_noteAll_1 : decode cX0_noteAll 1 = .ok (.getfield 21, 3) := by decide +kernel
theorem dX0_noteAll_4 : decode cX0_noteAll 4 = .ok (.iconst 0, 1) := by decide +kernel
theorem dX0_noteAll_5 : decode cX0_noteAll 5 = .ok (.invokestatic 41, 3) := by decide +kernel
theorem dX0_noteAll_8 : decode cX0_noteAll 8 = .ok (.aload_n 0, 1) := by decide +kernel
theorem dX0_noteAll_9 : decode cX0_noteAll 9 = .ok (.iconst 0, 1) := by decide +kernel
theorem dX0_noteAll_10 : decode cX0_noteAll 10 = .ok (.putfield 47, 3) := by decide +kernel
theorem dX0_noteAll_13 : decode cX0_noteAll 13 = .ok (.iconst 0, 1) := by decide +kernel
theorem dX0_noteAll_14 : decode cX0_noteAll 14 = .ok (.istore_n 1, 1) := by decide +kernel
theorem dX0_noteAll_15 : decode cX0_noteAll 15 = .ok (.iload_n 1, 1) := by decide +kernel
theorem dX0_noteAll_16 : decode cX0_noteAll 16 = .ok (.aload_n 0, 1) := by decide +kernel
theorem dX0_noteAll_17 : decode cX0_noteAll 17 = .ok (.getfield 24, 3) := by decide +kernel
theorem dX0_noteAll_20 : decode cX0_noteAll 20 = .ok (.if_icmp .ge 14, 3) := by decide +kernel
theorem dX0_noteAll_23 : decode cX0_noteAll 23 = .ok (.aload_n 0, 1) := by decide +kernel
theorem dX0_noteAll_24 : decode cX0_noteAll 24 = .ok (.iload_n 1, 1) := by decide +kernel
theorem dX0_noteAll_25 : decode cX0_noteAll 25 = .ok (.invokevirtual 28, 3) := by decide +kernel
theorem dX0_noteAll_28 : decode cX0_noteAll 28 = .ok (.iinc 1 1, 3) := by decide +kernel
theorem dX0_noteAll_31 : decode cX0_noteAll 31 = .ok (.goto (-16), 3) := by decide +kernel
theorem dX0_noteAll_34 : decode cX0_noteAll 34 = .ok (.return_, 1) := by decide +kernel
theorem dX0_note_0 : decode cX0_note 0 = .ok (.aload_n 0, 1) := by decide +kernel
theorem dX0_note_1 : decode cX0_note 1 = .ok (.getfield 15, 3) := by decide +kernel
theorem dX0_note_4 : decode cX0_note 4 = .ok (.iload_n 1, 1) := by decide +kernel
theorem dX0_note_5 : decode cX0_note 5 = .ok (.iaload, 1) := by decide +kernel
theorem dX0_note_6 : decode cX0_note 6 = .ok (.iconst (-1), 1) := by decide +kernel
theorem dX0_note_7 : decode cX0_note 7 = .ok (.if_icmp .ne 28, 3) := by decide +kernel
theorem dX0_note_10 : decode cX0_note 10 = .ok (.aload_n 0, 1) := by decide +kernel
theorem dX0_note_11 : decode cX0_note 11 = .ok (.getfield 21, 3) := by decide +kernel
theorem dX0_note_14 : decode cX0_note 14 = .ok (.aload_n 0, 1) := by decide +kernel
theorem dX0_note_15 : decode cX0_note 15 = .ok (.getfield 18, 3) := by decide +kernel
theorem dX0_note_18 : decode cX0_note 18 = .ok (.iload_n 1, 1) := by decide +kernel
theorem dX0_note_19 : decode cX0_note 19 = .ok (.iaload, 1) := by decide +kernel
theorem dX0_note_20 : decode cX0_note 20 = .ok (.dup2, 1) := by decide +kernel
theorem dX0_note_21 : decode cX0_note 21 = .ok (.iaload, 1) := by decide +kernel
theorem dX0_note_22 : decode cX0_note 22 = .ok (.iconst 1, 1) := by decide +kernel
theorem dX0_note_23 : decode cX0_note 23 = .ok (.aload_n 0, 1) := by decide +kernel
theorem dX0_note_24 : decode cX0_note 24 = .ok (.getfield 9, 3) := by decide +kernel
theorem dX0_note_27 : decode cX0_note 27 = .ok (.iload_n 1, 1) := by decide +kernel
theorem dX0_note_28 : decode cX0_note 28 = .ok (.iaload, 1) := by decide +kernel
theorem dX0_note_29 : decode cX0_note 29 = .ok (.ishl, 1) := by decide +kernel
theorem dX0_note_30 : decode cX0_note 30 = .ok (.ior, 1) := by decide +kernel
theorem dX0_note_31 : decode cX0_note 31 = .ok (.iastore, 1) := by decide +kernel
theorem dX0_note_32 : decode cX0_note 32 = .ok (.goto 20, 3) := by decide +kernel
theorem dX0_note_35 : decode cX0_note 35 = .ok (.aload_n 0, 1) := by decide +kernel
theorem dX0_note_36 : decode cX0_note 36 = .ok (.dup, 1) := by decide +kernel
theorem dX0_note_37 : decode cX0_note 37 = .ok (.getfield 47, 3) := by decide +kernel
theorem dX0_note_40 : decode cX0_note 40 = .ok (.iconst 1, 1) := by decide +kernel
theorem dX0_note_41 : decode cX0_note 41 = .ok (.aload_n 0, 1) := by decide +kernel
theorem dX0_note_42 : decode cX0_note 42 = .ok (.getfield 18, 3) := by decide +kernel
theorem dX0_note_45 : decode cX0_note 45 = .ok (.iload_n 1, 1) := by decide +kernel
theorem dX0_note_46 : decode cX0_note 46 = .ok (.iaload, 1) := by decide +kernel
theorem dX0_note_47 : decode cX0_note 47 = .ok (.ishl, 1) := by decide +kernel
theorem dX0_note_48 : decode cX0_note 48 = .ok (.ior, 1) := by decide +kernel
theorem dX0_note_49 : decode cX0_note 49 = .ok (.putfield 47, 3) := by decide +kernel
theorem dX0_note_52 : decode cX0_note 52 = .ok (.return_, 1) := by decide +kernel
theorem dX1_init_0 : decode cX1_init 0 = .ok (.aload_n 0, 1) := by decide +kernel
theorem dX1_init_1 : decode cX1_init 1 = .ok (.invokespecial 3, 3) := by decide +kernel
theorem dX1_init_4 : decode cX1_init 4 = .ok (.return_, 1) := by decide +kernel
theorem dX1_asTold_0 : decode cX1_asTold 0 = .ok (.aload_n 0, 1) := by decide +kernel
theorem dX1_asTold_1 : decode cX1_asTold 1 = .ok (.aload_n 1, 1) := by decide +kernel
theorem dX1_asTold_2 : decode cX1_asTold 2 = .ok (.getfield 9, 3) := by decide +kernel
theorem dX1_asTold_5 : decode cX1_asTold 5 = .ok (.putfield 15, 3) := by decide +kernel
theorem dX1_asTold_8 : decode cX1_asTold 8 = .ok (.aload_n 0, 1) := by decide +kernel
theorem dX1_asTold_9 : decode cX1_asTold 9 = .ok (.aload_n 1, 1) := by decide +kernel
theorem dX1_asTold_10 : decode cX1_asTold 10 = .ok (.getfield 18, 3) := by decide +kernel
theorem dX1_asTold_13 : decode cX1_asTold 13 = .ok (.putfield 21, 3) := by decide +kernel
theorem dX1_asTold_16 : decode cX1_asTold 16 = .ok (.aload_n 0, 1) := by decide +kernel
theorem dX1_asTold_17 : decode cX1_asTold 17 = .ok (.aload_n 1, 1) := by decide +kernel
theorem dX1_asTold_18 : decode cX1_asTold 18 = .ok (.getfield 22, 3) := by decide +kernel
theorem dX1_asTold_21 : decode cX1_asTold 21 = .ok (.putfield 25, 3) := by decide +kernel
theorem dX1_asTold_24 : decode cX1_asTold 24 = .ok (.aload_n 0, 1) := by decide +kernel
theorem dX1_asTold_25 : decode cX1_asTold 25 = .ok (.aload_n 1, 1) := by decide +kernel
theorem dX1_asTold_26 : decode cX1_asTold 26 = .ok (.getfield 26, 3) := by decide +kernel
theorem dX1_asTold_29 : decode cX1_asTold 29 = .ok (.putfield 29, 3) := by decide +kernel
theorem dX1_asTold_32 : decode cX1_asTold 32 = .ok (.aload_n 0, 1) := by decide +kernel
theorem dX1_asTold_33 : decode cX1_asTold 33 = .ok (.iconst 0, 1) := by decide +kernel
theorem dX1_asTold_34 : decode cX1_asTold 34 = .ok (.putfield 30, 3) := by decide +kernel
theorem dX1_asTold_37 : decode cX1_asTold 37 = .ok (.aload_n 0, 1) := by decide +kernel
theorem dX1_asTold_38 : decode cX1_asTold 38 = .ok (.iconst (-1), 1) := by decide +kernel
theorem dX1_asTold_39 : decode cX1_asTold 39 = .ok (.putfield 33, 3) := by decide +kernel
theorem dX1_asTold_42 : decode cX1_asTold 42 = .ok (.aload_n 0, 1) := by decide +kernel
theorem dX1_asTold_43 : decode cX1_asTold 43 = .ok (.iconst (-1), 1) := by decide +kernel
theorem dX1_asTold_44 : decode cX1_asTold 44 = .ok (.putfield 36, 3) := by decide +kernel
theorem dX1_asTold_47 : decode cX1_asTold 47 = .ok (.aload_n 0, 1) := by decide +kernel
theorem dX1_asTold_48 : decode cX1_asTold 48 = .ok (.aload_n 1, 1) := by decide +kernel
theorem dX1_asTold_49 : decode cX1_asTold 49 = .ok (.getfield 39, 3) := by decide +kernel
theorem dX1_asTold_52 : decode cX1_asTold 52 = .ok (.putfield 42, 3) := by decide +kernel
theorem dX1_asTold_55 : decode cX1_asTold 55 = .ok (.return_, 1) := by decide +kernel
theorem dX3_init_0 : decode cX3_init 0 = .ok (.aload_n 0, 1) := by decide +kernel
theorem dX3_init_1 : decode cX3_init 1 = .ok (.invokespecial 3, 3) := by decide +kernel
theorem dX3_init_4 : decode cX3_init 4 = .ok (.aload_n 0, 1) := by decide +kernel
theorem dX3_init_5 : decode cX3_init 5 = .ok (.bipush 60, 2) := by decide +kernel
theorem dX3_init_7 : decode cX3_init 7 = .ok (.newarray .long, 2) := by decide +kernel
theorem dX3_init_9 : decode cX3_init 9 = .ok (.putfield 9, 3) := by decide +kernel
theorem dX3_init_12 : decode cX3_init 12 = .ok (.aload_n 0, 1) := by decide +kernel
theorem dX3_init_13 : decode cX3_init 13 = .ok (.iconst (-1), 1) := by decide +kernel
theorem dX3_init_14 : decode cX3_init 14 = .ok (.putfield 15, 3) := by decide +kernel
theorem dX3_init_17 : decode cX3_init 17 = .ok (.return_, 1) := by decide +kernel
theorem dX3_isThere_0 : decode cX3_isThere 0 = .ok (.aload_n 0, 1) := by decide +kernel
theorem dX3_isThere_1 : decode cX3_isThere 1 = .ok (.getfield 15, 3) := by decide +kernel
theorem dX3_isThere_4 : decode cX3_isThere 4 = .ok (.iconst (-1), 1) := by decide +kernel
theorem dX3_isThere_5 : decode cX3_isThere 5 = .ok (.if_icmp .eq 7, 3) := by decide +kernel
theorem dX3_isThere_8 : decode cX3_isThere 8 = .ok (.iconst 1, 1) := by decide +kernel
theorem dX3_isThere_9 : decode cX3_isThere 9 = .ok (.goto 4, 3) := by decide +kernel
theorem dX3_isThere_12 : decode cX3_isThere 12 = .ok (.iconst 0, 1) := by decide +kernel
theorem dX3_isThere_13 : decode cX3_isThere 13 = .ok (.ireturn, 1) := by decide +kernel
theorem dX3_begin_0 : decode cX3_begin 0 = .ok (.aload_n 0, 1) := by decide +kernel
theorem dX3_begin_1 : decode cX3_begin 1 = .ok (.iload_n 1, 1) := by decide +kernel
theorem dX3_begin_2 : decode cX3_begin 2 = .ok (.putfield 19, 3) := by decide +kernel
theorem dX3_begin_5 : decode cX3_begin 5 = .ok (.aload_n 0, 1) := by decide +kernel
theorem dX3_begin_6 : decode cX3_begin 6 = .ok (.iload_n 2, 1) := by decide +kernel
theorem dX3_begin_7 : decode cX3_begin 7 = .ok (.putfield 15, 3) := by decide +kernel
theorem dX3_begin_10 : decode cX3_begin 10 = .ok (.aload_n 0, 1) := by decide +kernel
theorem dX3_begin_11 : decode cX3_begin 11 = .ok (.getfield 9, 3) := by decide +kernel
theorem dX3_begin_14 : decode cX3_begin 14 = .ok (.lconst 0, 1) := by decide +kernel
theorem dX3_begin_15 : decode cX3_begin 15 = .ok (.invokestatic 22, 3) := by decide +kernel
theorem dX3_begin_18 : decode cX3_begin 18 = .ok (.return_, 1) := by decide +kernel
theorem dX3_spans_0 : decode cX3_spans 0 = .ok (.iload_n 1, 1) := by decide +kernel
theorem dX3_spans_1 : decode cX3_spans 1 = .ok (.ifCond .lt 29, 3) := by decide +kernel
theorem dX3_spans_4 : decode cX3_spans 4 = .ok (.iload_n 2, 1) := by decide +kernel
theorem dX3_spans_5 : decode cX3_spans 5 = .ok (.ifCond .lt 25, 3) := by decide +kernel
theorem dX3_spans_8 : decode cX3_spans 8 = .ok (.iload_n 1, 1) := by decide +kernel
theorem dX3_spans_9 : decode cX3_spans 9 = .ok (.aload_n 0, 1) := by decide +kernel
theorem dX3_spans_10 : decode cX3_spans 10 = .ok (.getfield 15, 3) := by decide +kernel
theorem dX3_spans_13 : decode cX3_spans 13 = .ok (.if_icmp .gt 17, 3) := by decide +kernel
theorem dX3_spans_16 : decode cX3_spans 16 = .ok (.iload_n 2, 1) := by decide +kernel
theorem dX3_spans_17 : decode cX3_spans 17 = .ok (.aload_n 0, 1) := by decide +kernel
theorem dX3_spans_18 : decode cX3_spans 18 = .ok (.getfield 15, 3) := by decide +kernel
theorem dX3_spans_21 : decode cX3_spans 21 = .ok (.iload_n 1, 1) := by decide +kernel
theorem dX3_spans_22 : decode cX3_spans 22 = .ok (.isub, 1) := by decide +kernel
theorem dX3_spans_23 : decode cX3_spans 23 = .ok (.if_icmp .gt 7, 3) := by decide +kernel
theorem dX3_spans_26 : decode cX3_spans 26 = .ok (.iconst 1, 1) := by decide +kernel
theorem dX3_spans_27 : decode cX3_spans 27 = .ok (.goto 4, 3) := by decide +kernel
theorem dX3_spans_30 : decode cX3_spans 30 = .ok (.iconst 0, 1) := by decide +kernel
theorem dX3_spans_31 : decode cX3_spans 31 = .ok (.ireturn, 1) := by decide +kernel
theorem dX3_hasPairs_0 : decode cX3_hasPairs 0 = .ok (.aload_n 0, 1) := by decide +kernel
theorem dX3_hasPairs_1 : decode cX3_hasPairs 1 = .ok (.getfield 15, 3) := by decide +kernel
theorem dX3_hasPairs_4 : decode cX3_hasPairs 4 = .ok (.iconst 2, 1) := by decide +kernel
theorem dX3_hasPairs_5 : decode cX3_hasPairs 5 = .ok (.irem, 1) := by decide +kernel
theorem dX3_hasPairs_6 : decode cX3_hasPairs 6 = .ok (.ifCond .eq 5, 3) := by decide +kernel
theorem dX3_hasPairs_9 : decode cX3_hasPairs 9 = .ok (.iconst 0, 1) := by decide +kernel
theorem dX3_hasPairs_10 : decode cX3_hasPairs 10 = .ok (.ireturn, 1) := by decide +kernel
theorem dX3_hasPairs_11 : decode cX3_hasPairs 11 = .ok (.iconst 0, 1) := by decide +kernel
theorem dX3_hasPairs_12 : decode cX3_hasPairs 12 = .ok (.istore 4, 2) := by decide +kernel
theorem dX3_hasPairs_14 : decode cX3_hasPairs 14 = .ok (.iload 4, 2) := by decide +kernel
theorem dX3_hasPairs_16 : decode cX3_hasPairs 16 = .ok (.iconst 1, 1) := by decide +kernel
theorem dX3_hasPairs_17 : decode cX3_hasPairs 17 = .ok (.iadd, 1) := by decide +kernel
theorem dX3_hasPairs_18 : decode cX3_hasPairs 18 = .ok (.aload_n 0, 1) := by decide +kernel
theorem dX3_hasPairs_19 : decode cX3_hasPairs 19 = .ok (.getfield 15, 3) := by decide +kernel
theorem dX3_hasPairs_22 : decode cX3_hasPairs 22 = .ok (.if_icmp .ge 78, 3) := by decide +kernel
theorem dX3_hasPairs_25 : decode cX3_hasPairs 25 = .ok (.aload_n 0, 1) := by decide +kernel
theorem dX3_hasPairs_26 : decode cX3_hasPairs 26 = .ok (.getfield 9, 3) := by decide +kernel
theorem dX3_hasPairs_29 : decode cX3_hasPairs 29 = .ok (.iload 4, 2) := by decide +kernel
theorem dX3_hasPairs_31 : decode cX3_hasPairs 31 = .ok (.laload, 1) := by decide +kernel
theorem dX3_hasPairs_32 : decode cX3_hasPairs 32 = .ok (.lconst 0, 1) := by decide +kernel
theorem dX3_hasPairs_33 : decode cX3_hasPairs 33 = .ok (.lcmp, 1) := by decide +kernel
theorem dX3_hasPairs_34 : decode cX3_hasPairs 34 = .ok (.ifCond .lt 20, 3) := by decide +kernel
theorem dX3_hasPairs_37 : decode cX3_hasPairs 37 = .ok (.aload_n 0, 1) := by decide +kernel
theorem dX3_hasPairs_38 : decode cX3_hasPairs 38 = .ok (.getfield 9, 3) := by decide +kernel
theorem dX3_hasPairs_41 : decode cX3_hasPairs 41 = .ok (.iload 4, 2) := by decide +kernel
theorem dX3_hasPairs_43 : decode cX3_hasPairs 43 = .ok (.laload, 1) := by decide +kernel
theorem dX3_hasPairs_44 : decode cX3_hasPairs 44 = .ok (.iload_n 1, 1) := by decide +kernel
theorem dX3_hasPairs_45 : decode cX3_hasPairs 45 = .ok (.i2l, 1) := by decide +kernel
theorem dX3_hasPairs_46 : decode cX3_hasPairs 46 = .ok (.lcmp, 1) := by decide +kernel
theorem dX3_hasPairs_47 : decode cX3_hasPairs 47 = .ok (.ifCond .gt 7, 3) := by decide +kernel
theorem dX3_hasPairs_50 : decode cX3_hasPairs 50 = .ok (.iconst 1, 1) := by decide +kernel
theorem dX3_hasPairs_51 : decode cX3_hasPairs 51 = .ok (.goto 4, 3) := by decide +kernel
theorem dX3_hasPairs_54 : decode cX3_hasPairs 54 = .ok (.iconst 0, 1) := by decide +kernel
theorem dX3_hasPairs_55 : decode cX3_hasPairs 55 = .ok (.istore 5, 2) := by decide +kernel
theorem dX3_hasPairs_57 : decode cX3_hasPairs 57 = .ok (.iload 5, 2) := by decide +kernel
theorem dX3_hasPairs_59 : decode cX3_hasPairs 59 = .ok (.ifCond .eq 33, 3) := by decide +kernel
theorem dX3_hasPairs_62 : decode cX3_hasPairs 62 = .ok (.aload_n 0, 1) := by decide +kernel
theorem dX3_hasPairs_63 : decode cX3_hasPairs 63 = .ok (.getfield 9, 3) := by decide +kernel
theorem dX3_hasPairs_66 : decode cX3_hasPairs 66 = .ok (.iload 4, 2) := by decide +kernel
theorem dX3_hasPairs_68 : decode cX3_hasPairs 68 = .ok (.iconst 1, 1) := by decide +kernel
theorem dX3_hasPairs_69 : decode cX3_hasPairs 69 = .ok (.iadd, 1) := by decide +kernel
theorem dX3_hasPairs_70 : decode cX3_hasPairs 70 = .ok (.laload, 1) := by decide +kernel
theorem dX3_hasPairs_71 : decode cX3_hasPairs 71 = .ok (.iload_n 2, 1) := by decide +kernel
theorem dX3_hasPairs_72 : decode cX3_hasPairs 72 = .ok (.i2l, 1) := by decide +kernel
theorem dX3_hasPairs_73 : decode cX3_hasPairs 73 = .ok (.lcmp, 1) := by decide +kernel
theorem dX3_hasPairs_74 : decode cX3_hasPairs 74 = .ok (.ifCond .lt 18, 3) := by decide +kernel
theorem dX3_hasPairs_77 : decode cX3_hasPairs 77 = .ok (.aload_n 0, 1) := by decide +kernel
theorem dX3_hasPairs_78 : decode cX3_hasPairs 78 = .ok (.getfield 9, 3) := by decide +kernel
theorem dX3_hasPairs_81 : decode cX3_hasPairs 81 = .ok (.iload 4, 2) := by decide +kernel
theorem dX3_hasPairs_83 : decode cX3_hasPairs 83 = .ok (.iconst 1, 1) := by decide +kernel
theorem dX3_hasPairs_84 : decode cX3_hasPairs 84 = .ok (.iadd, 1) := by decide +kernel
theorem dX3_hasPairs_85 : decode cX3_hasPairs 85 = .ok (.laload, 1) := by decide +kernel
theorem dX3_hasPairs_86 : decode cX3_hasPairs 86 = .ok (.iload_n 3, 1) := by decide +kernel
theorem dX3_hasPairs_87 : decode cX3_hasPairs 87 = .ok (.i2l, 1) := by decide +kernel
theorem dX3_hasPairs_88 : decode cX3_hasPairs 88 = .ok (.lcmp, 1) := by decide +kernel
theorem dX3_hasPairs_89 : decode cX3_hasPairs 89 = .ok (.ifCond .le 5, 3) := by decide +kernel
theorem dX3_hasPairs_92 : decode cX3_hasPairs 92 = .ok (.iconst 0, 1) := by decide +kernel
theorem dX3_hasPairs_93 : decode cX3_hasPairs 93 = .ok (.ireturn, 1) := by decide +kernel
theorem dX3_hasPairs_94 : decode cX3_hasPairs 94 = .ok (.iinc 4 2, 3) := by decide +kernel
theorem dX3_hasPairs_97 : decode cX3_hasPairs 97 = .ok (.goto (-83), 3) := by decide +kernel
theorem dX3_hasPairs_100 : decode cX3_hasPairs 100 = .ok (.iconst 1, 1) := by decide +kernel
theorem dX3_hasPairs_101 : decode cX3_hasPairs 101 = .ok (.ireturn, 1) := by decide +kernel
theorem dX3_fitsTurns_0 : decode cX3_fitsTurns 0 = .ok (.iconst 0, 1) := by decide +kernel
theorem dX3_fitsTurns_1 : decode cX3_fitsTurns 1 = .ok (.istore_n 2, 1) := by decide +kernel
theorem dX3_fitsTurns_2 : decode cX3_fitsTurns 2 = .ok (.iload_n 2, 1) := by decide +kernel
theorem dX3_fitsTurns_3 : decode cX3_fitsTurns 3 = .ok (.iconst 1, 1) := by decide +kernel
theorem dX3_fitsTurns_4 : decode cX3_fitsTurns 4 = .ok (.iadd, 1) := by decide +kernel
theorem dX3_fitsTurns_5 : decode cX3_fitsTurns 5 = .ok (.aload_n 0, 1) := by decide +kernel
theorem dX3_fitsTurns_6 : decode cX3_fitsTurns 6 = .ok (.getfield 15, 3) := by decide +kernel
theorem dX3_fitsTurns_9 : decode cX3_fitsTurns 9 = .ok (.if_icmp .ge 36, 3) := by decide +kernel
theorem dX3_fitsTurns_12 : decode cX3_fitsTurns 12 = .ok (.aload_n 1, 1) := by decide +kernel
theorem dX3_fitsTurns_13 : decode cX3_fitsTurns 13 = .ok (.getfield 28, 3) := by decide +kernel
theorem dX3_fitsTurns_16 : decode cX3_fitsTurns 16 = .ok (.aload_n 0, 1) := by decide +kernel
theorem dX3_fitsTurns_17 : decode cX3_fitsTurns 17 = .ok (.getfield 9, 3) := by decide +kernel
theorem dX3_fitsTurns_20 : decode cX3_fitsTurns 20 = .ok (.iload_n 2, 1) := by decide +kernel
theorem dX3_fitsTurns_21 : decode cX3_fitsTurns 21 = .ok (.laload, 1) := by decide +kernel
theorem dX3_fitsTurns_22 : decode cX3_fitsTurns 22 = .ok (.l2i, 1) := by decide +kernel
theorem dX3_fitsTurns_23 : decode cX3_fitsTurns 23 = .ok (.iaload, 1) := by decide +kernel
theorem dX3_fitsTurns_24 : decode cX3_fitsTurns 24 = .ok (.i2l, 1) := by decide +kernel
theorem dX3_fitsTurns_25 : decode cX3_fitsTurns 25 = .ok (.aload_n 0, 1) := by decide +kernel
theorem dX3_fitsTurns_26 : decode cX3_fitsTurns 26 = .ok (.getfield 9, 3) := by decide +kernel
theorem dX3_fitsTurns_29 : decode cX3_fitsTurns 29 = .ok (.iload_n 2, 1) := by decide +kernel
theorem dX3_fitsTurns_30 : decode cX3_fitsTurns 30 = .ok (.iconst 1, 1) := by decide +kernel
theorem dX3_fitsTurns_31 : decode cX3_fitsTurns 31 = .ok (.iadd, 1) := by decide +kernel
theorem dX3_fitsTurns_32 : decode cX3_fitsTurns 32 = .ok (.laload, 1) := by decide +kernel
theorem dX3_fitsTurns_33 : decode cX3_fitsTurns 33 = .ok (.lcmp, 1) := by decide +kernel
theorem dX3_fitsTurns_34 : decode cX3_fitsTurns 34 = .ok (.ifCond .eq 5, 3) := by decide +kernel
theorem dX3_fitsTurns_37 : decode cX3_fitsTurns 37 = .ok (.iconst 0, 1) := by decide +kernel
theorem dX3_fitsTurns_38 : decode cX3_fitsTurns 38 = .ok (.ireturn, 1) := by decide +kernel
theorem dX3_fitsTurns_39 : decode cX3_fitsTurns 39 = .ok (.iinc 2 2, 3) := by decide +kernel
theorem dX3_fitsTurns_42 : decode cX3_fitsTurns 42 = .ok (.goto (-40), 3) := by decide +kernel
theorem dX3_fitsTurns_45 : decode cX3_fitsTurns 45 = .ok (.iconst 1, 1) := by decide +kernel
theorem dX3_fitsTurns_46 : decode cX3_fitsTurns 46 = .ok (.ireturn, 1) := by decide +kernel
theorem dX3_fitsPlaces_0 : decode cX3_fitsPlaces 0 = .ok (.iconst 0, 1) := by decide +kernel
theorem dX3_fitsPlaces_1 : decode cX3_fitsPlaces 1 = .ok (.istore_n 3, 1) := by decide +kernel
theorem dX3_fitsPlaces_2 : decode cX3_fitsPlaces 2 = .ok (.iload_n 3, 1) := by decide +kernel
theorem dX3_fitsPlaces_3 : decode cX3_fitsPlaces 3 = .ok (.iconst 1, 1) := by decide +kernel
theorem dX3_fitsPlaces_4 : decode cX3_fitsPlaces 4 = .ok (.iadd, 1) := by decide +kernel
theorem dX3_fitsPlaces_5 : decode cX3_fitsPlaces 5 = .ok (.aload_n 0, 1) := by decide +kernel
theorem dX3_fitsPlaces_6 : decode cX3_fitsPlaces 6 = .ok (.getfield 15, 3) := by decide +kernel
theorem dX3_fitsPlaces_9 : decode cX3_fitsPlaces 9 = .ok (.if_icmp .ge 36, 3) := by decide +kernel
theorem dX3_fitsPlaces_12 : decode cX3_fitsPlaces 12 = .ok (.aload_n 1, 1) := by decide +kernel
theorem dX3_fitsPlaces_13 : decode cX3_fitsPlaces 13 = .ok (.iload_n 2, 1) := by decide +kernel
theorem dX3_fitsPlaces_14 : decode cX3_fitsPlaces 14 = .ok (.aload_n 0, 1) := by decide +kernel
theorem dX3_fitsPlaces_15 : decode cX3_fitsPlaces 15 = .ok (.getfield 9, 3) := by decide +kernel
theorem dX3_fitsPlaces_18 : decode cX3_fitsPlaces 18 = .ok (.iload_n 3, 1) := by decide +kernel
theorem dX3_fitsPlaces_19 : decode cX3_fitsPlaces 19 = .ok (.laload, 1) := by decide +kernel
theorem dX3_fitsPlaces_20 : decode cX3_fitsPlaces 20 = .ok (.l2i, 1) := by decide +kernel
theorem dX3_fitsPlaces_21 : decode cX3_fitsPlaces 21 = .ok (.invokevirtual 34, 3) := by decide +kernel
theorem dX3_fitsPlaces_24 : decode cX3_fitsPlaces 24 = .ok (.i2l, 1) := by decide +kernel
theorem dX3_fitsPlaces_25 : decode cX3_fitsPlaces 25 = .ok (.aload_n 0, 1) := by decide +kernel
theorem dX3_fitsPlaces_26 : decode cX3_fitsPlaces 26 = .ok (.getfield 9, 3) := by decide +kernel
theorem dX3_fitsPlaces_29 : decode cX3_fitsPlaces 29 = .ok (.iload_n 3, 1) := by decide +kernel
theorem dX3_fitsPlaces_30 : decode cX3_fitsPlaces 30 = .ok (.iconst 1, 1) := by decide +kernel
theorem dX3_fitsPlaces_31 : decode cX3_fitsPlaces 31 = .ok (.iadd, 1) := by decide +kernel
theorem dX3_fitsPlaces_32 : decode cX3_fitsPlaces 32 = .ok (.laload, 1) := by decide +kernel
theorem dX3_fitsPlaces_33 : decode cX3_fitsPlaces 33 = .ok (.lcmp, 1) := by decide +kernel
theorem dX3_fitsPlaces_34 : decode cX3_fitsPlaces 34 = .ok (.ifCond .eq 5, 3) := by decide +kernel
theorem dX3_fitsPlaces_37 : decode cX3_fitsPlaces 37 = .ok (.iconst 0, 1) := by decide +kernel
theorem dX3_fitsPlaces_38 : decode cX3_fitsPlaces 38 = .ok (.ireturn, 1) := by decide +kernel
theorem dX3_fitsPlaces_39 : decode cX3_fitsPlaces 39 = .ok (.iinc 3 2, 3) := by decide +kernel
theorem dX3_fitsPlaces_42 : decode cX3_fitsPlaces 42 = .ok (.goto (-40), 3) := by decide +kernel
theorem dX3_fitsPlaces_45 : decode cX3_fitsPlaces 45 = .ok (.iconst 1, 1) := by decide +kernel
theorem dX3_fitsPlaces_46 : decode cX3_fitsPlaces 46 = .ok (.ireturn, 1) := by decide +kernel
theorem dX4_init_0 : decode cX4_init 0 = .ok (.aload_n 0, 1) := by decide +kernel
theorem dX4_init_1 : decode cX4_init 1 = .ok (.invokespecial 3, 3) := by decide +kernel
theorem dX4_init_4 : decode cX4_init 4 = .ok (.aload_n 0, 1) := by decide +kernel
theorem dX4_init_5 : decode cX4_init 5 = .ok (.sipush 5120, 3) := by decide +kernel
theorem dX4_init_8 : decode cX4_init 8 = .ok (.newarray .short, 2) := by decide +kernel
theorem dX4_init_10 : decode cX4_init 10 = .ok (.putfield 9, 3) := by decide +kernel
theorem dX4_init_13 : decode cX4_init 13 = .ok (.return_, 1) := by decide +kernel
theorem dX4_begin_0 : decode cX4_begin 0 = .ok (.aload_n 0, 1) := by decide +kernel
theorem dX4_begin_1 : decode cX4_begin 1 = .ok (.iconst 0, 1) := by decide +kernel
theorem dX4_begin_2 : decode cX4_begin 2 = .ok (.putfield 15, 3) := by decide +kernel
theorem dX4_begin_5 : decode cX4_begin 5 = .ok (.aload_n 0, 1) := by decide +kernel
theorem dX4_begin_6 : decode cX4_begin 6 = .ok (.iload_n 1, 1) := by decide +kernel
theorem dX4_begin_7 : decode cX4_begin 7 = .ok (.putfield 19, 3) := by decide +kernel
theorem dX4_begin_10 : decode cX4_begin 10 = .ok (.aload_n 0, 1) := by decide +kernel
theorem dX4_begin_11 : decode cX4_begin 11 = .ok (.iconst 0, 1) := by decide +kernel
theorem dX4_begin_12 : decode cX4_begin 12 = .ok (.putfield 22, 3) := by decide +kernel
theorem dX4_begin_15 : decode cX4_begin 15 = .ok (.return_, 1) := by decide +kernel
theorem dX4_add_0 : decode cX4_add 0 = .ok (.aload_n 0, 1) := by decide +kernel
theorem dX4_add_1 : decode cX4_add 1 = .ok (.getfield 15, 3) := by decide +kernel
theorem dX4_add_4 : decode cX4_add 4 = .ok (.sipush 256, 3) := by decide +kernel
theorem dX4_add_7 : decode cX4_add 7 = .ok (.if_icmp .lt 4, 3) := by decide +kernel
theorem dX4_add_10 : decode cX4_add 10 = .ok (.return_, 1) := by decide +kernel
theorem dX4_add_11 : decode cX4_add 11 = .ok (.iconst 0, 1) := by decide +kernel
theorem dX4_add_12 : decode cX4_add 12 = .ok (.istore 4, 2) := by decide +kernel
theorem dX4_add_14 : decode cX4_add 14 = .ok (.iload 4, 2) := by decide +kernel
theorem dX4_add_16 : decode cX4_add 16 = .ok (.iload_n 3, 1) := by decide +kernel
theorem dX4_add_17 : decode cX4_add 17 = .ok (.if_icmp .ge 32, 3) := by decide +kernel
theorem dX4_add_20 : decode cX4_add 20 = .ok (.aload_n 0, 1) := by decide +kernel
theorem dX4_add_21 : decode cX4_add 21 = .ok (.getfield 9, 3) := by decide +kernel
theorem dX4_add_24 : decode cX4_add 24 = .ok (.aload_n 0, 1) := by decide +kernel
theorem dX4_add_25 : decode cX4_add 25 = .ok (.getfield 15, 3) := by decide +kernel
theorem dX4_add_28 : decode cX4_add 28 = .ok (.bipush 20, 2) := by decide +kernel
theorem dX4_add_30 : decode cX4_add 30 = .ok (.imul, 1) := by decide +kernel
theorem dX4_add_31 : decode cX4_add 31 = .ok (.iload 4, 2) := by decide +kernel
theorem dX4_add_33 : decode cX4_add 33 = .ok (.iadd, 1) := by decide +kernel
theorem dX4_add_34 : decode cX4_add 34 = .ok (.aload_n 2, 1) := by decide +kernel
theorem dX4_add_35 : decode cX4_add 35 = .ok (.getfield 25, 3) := by decide +kernel
theorem dX4_add_38 : decode cX4_add 38 = .ok (.iload 4, 2) := by decide +kernel
theorem dX4_add_40 : decode cX4_add 40 = .ok (.iaload, 1) := by decide +kernel
theorem dX4_add_41 : decode cX4_add 41 = .ok (.i2s, 1) := by decide +kernel
theorem dX4_add_42 : decode cX4_add 42 = .ok (.sastore, 1) := by decide +kernel
theorem dX4_add_43 : decode cX4_add 43 = .ok (.iinc 4 1, 3) := by decide +kernel
theorem dX4_add_46 : decode cX4_add 46 = .ok (.goto (-32), 3) := by decide +kernel
theorem dX4_add_49 : decode cX4_add 49 = .ok (.aload_n 0, 1) := by decide +kernel
theorem dX4_add_50 : decode cX4_add 50 = .ok (.dup, 1) := by decide +kernel
theorem dX4_add_51 : decode cX4_add 51 = .ok (.getfield 19, 3) := by decide +kernel
theorem dX4_add_54 : decode cX4_add 54 = .ok (.iload_n 1, 1) := by decide +kernel
theorem dX4_add_55 : decode cX4_add 55 = .ok (.iand, 1) := by decide +kernel
theorem dX4_add_56 : decode cX4_add 56 = .ok (.putfield 19, 3) := by decide +kernel
theorem dX4_add_59 : decode cX4_add 59 = .ok (.aload_n 0, 1) := by decide +kernel
theorem dX4_add_60 : decode cX4_add 60 = .ok (.dup, 1) := by decide +kernel
theorem dX4_add_61 : decode cX4_add 61 = .ok (.getfield 22, 3) := by decide +kernel
theorem dX4_add_64 : decode cX4_add 64 = .ok (.iload_n 1, 1) := by decide +kernel
theorem dX4_add_65 : decode cX4_add 65 = .ok (.ior, 1) := by decide +kernel
theorem dX4_add_66 : decode cX4_add 66 = .ok (.putfield 22, 3) := by decide +kernel
theorem dX4_add_69 : decode cX4_add 69 = .ok (.aload_n 0, 1) := by decide +kernel
theorem dX4_add_70 : decode cX4_add 70 = .ok (.dup, 1) := by decide +kernel
theorem dX4_add_71 : decode cX4_add 71 = .ok (.getfield 15, 3) := by decide +kernel
theorem dX4_add_74 : decode cX4_add 74 = .ok (.iconst 1, 1) := by decide +kernel
theorem dX4_add_75 : decode cX4_add 75 = .ok (.iadd, 1) := by decide +kernel
theorem dX4_add_76 : decode cX4_add 76 = .ok (.putfield 15, 3) := by decide +kernel
theorem dX4_add_79 : decode cX4_add 79 = .ok (.return_, 1) := by decide +kernel
theorem dX4_worst_0 : decode cX4_worst 0 = .ok (.aload_n 2, 1) := by decide +kernel
theorem dX4_worst_1 : decode cX4_worst 1 = .ok (.invokevirtual 30, 3) := by decide +kernel
theorem dX4_worst_4 : decode cX4_worst 4 = .ok (.iconst 0, 1) := by decide +kernel
theorem dX4_worst_5 : decode cX4_worst 5 = .ok (.istore_n 3, 1) := by decide +kernel
theorem dX4_worst_6 : decode cX4_worst 6 = .ok (.iconst 0, 1) := by decide +kernel
theorem dX4_worst_7 : decode cX4_worst 7 = .ok (.istore 4, 2) := by decide +kernel
theorem dX4_worst_9 : decode cX4_worst 9 = .ok (.iload 4, 2) := by decide +kernel
theorem dX4_worst_11 : decode cX4_worst 11 = .ok (.aload_n 0, 1) := by decide +kernel
theorem dX4_worst_12 : decode cX4_worst 12 = .ok (.getfield 15, 3) := by decide +kernel
theorem dX4_worst_15 : decode cX4_worst 15 = .ok (.if_icmp .ge 30, 3) := by decide +kernel
theorem dX4_worst_18 : decode cX4_worst 18 = .ok (.iload_n 3, 1) := by decide +kernel
theorem dX4_worst_19 : decode cX4_worst 19 = .ok (.aload_n 2, 1) := by decide +kernel
theorem dX4_worst_20 : decode cX4_worst 20 = .ok (.aload_n 0, 1) := by decide +kernel
theorem dX4_worst_21 : decode cX4_worst 21 = .ok (.getfield 9, 3) := by decide +kernel
theorem dX4_worst_24 : decode cX4_worst 24 = .ok (.iload 4, 2) := by decide +kernel
theorem dX4_worst_26 : decode cX4_worst 26 = .ok (.bipush 20, 2) := by decide +kernel
theorem dX4_worst_28 : decode cX4_worst 28 = .ok (.imul, 1) := by decide +kernel
theorem dX4_worst_29 : decode cX4_worst 29 = .ok (.iload_n 1, 1) := by decide +kernel
theorem dX4_worst_30 : decode cX4_worst 30 = .ok (.iadd, 1) := by decide +kernel
theorem dX4_worst_31 : decode cX4_worst 31 = .ok (.saload, 1) := by decide +kernel
theorem dX4_worst_32 : decode cX4_worst 32 = .ok (.invokevirtual 35, 3) := by decide +kernel
theorem dX4_worst_35 : decode cX4_worst 35 = .ok (.invokestatic 39, 3) := by decide +kernel
theorem dX4_worst_38 : decode cX4_worst 38 = .ok (.istore_n 3, 1) := by decide +kernel
theorem dX4_worst_39 : decode cX4_worst 39 = .ok (.iinc 4 1, 3) := by decide +kernel
theorem dX4_worst_42 : decode cX4_worst 42 = .ok (.goto (-33), 3) := by decide +kernel
theorem dX4_worst_45 : decode cX4_worst 45 = .ok (.iload_n 3, 1) := by decide +kernel
theorem dX4_worst_46 : decode cX4_worst 46 = .ok (.ireturn, 1) := by decide +kernel
theorem dX5_init_0 : decode cX5_init 0 = .ok (.aload_n 0, 1) := by decide +kernel
theorem dX5_init_1 : decode cX5_init 1 = .ok (.invokespecial 3, 3) := by decide +kernel
theorem dX5_init_4 : decode cX5_init 4 = .ok (.aload_n 0, 1) := by decide +kernel
theorem dX5_init_5 : decode cX5_init 5 = .ok (.sipush 801, 3) := by decide +kernel
theorem dX5_init_8 : decode cX5_init 8 = .ok (.newarray .int, 2) := by decide +kernel
theorem dX5_init_10 : decode cX5_init 10 = .ok (.putfield 9, 3) := by decide +kernel
theorem dX5_init_13 : decode cX5_init 13 = .ok (.return_, 1) := by decide +kernel
theorem dX5_clear_0 : decode cX5_clear 0 = .ok (.aload_n 0, 1) := by decide +kernel
theorem dX5_clear_1 : decode cX5_clear 1 = .ok (.getfield 9, 3) := by decide +kernel
theorem dX5_clear_4 : decode cX5_clear 4 = .ok (.iconst 0, 1) := by decide +kernel
theorem dX5_clear_5 : decode cX5_clear 5 = .ok (.invokestatic 15, 3) := by decide +kernel
theorem dX5_clear_8 : decode cX5_clear 8 = .ok (.return_, 1) := by decide +kernel
theorem dX5_add_0 : decode cX5_add 0 = .ok (.iload_n 1, 1) := by decide +kernel
theorem dX5_add_1 : decode cX5_add 1 = .ok (.sipush (-400), 3) := by decide +kernel
theorem dX5_add_4 : decode cX5_add 4 = .ok (.if_icmp .lt 10, 3) := by decide +kernel
theorem dX5_add_7 : decode cX5_add 7 = .ok (.iload_n 1, 1) := by decide +kernel
theorem dX5_add_8 : decode cX5_add 8 = .ok (.sipush 400, 3) := by decide +kernel
theorem dX5_add_11 : decode cX5_add 11 = .ok (.if_icmp .le 5, 3) := by decide +kernel
theorem dX5_add_14 : decode cX5_add 14 = .ok (.iconst 0, 1) := by decide +kernel
theorem dX5_add_15 : decode cX5_add 15 = .ok (.ireturn, 1) := by decide +kernel
theorem dX5_add_16 : decode cX5_add 16 = .ok (.aload_n 0, 1) := by decide +kernel
theorem dX5_add_17 : decode cX5_add 17 = .ok (.getfield 9, 3) := by decide +kernel
theorem dX5_add_20 : decode cX5_add 20 = .ok (.iload_n 1, 1) := by decide +kernel
theorem dX5_add_21 : decode cX5_add 21 = .ok (.sipush 400, 3) := by decide +kernel
theorem dX5_add_24 : decode cX5_add 24 = .ok (.iadd, 1) := by decide +kernel
theorem dX5_add_25 : decode cX5_add 25 = .ok (.dup2, 1) := by decide +kernel
theorem dX5_add_26 : decode cX5_add 26 = .ok (.iaload, 1) := by decide +kernel
theorem dX5_add_27 : decode cX5_add 27 = .ok (.iconst 1, 1) := by decide +kernel
theorem dX5_add_28 : decode cX5_add 28 = .ok (.iadd, 1) := by decide +kernel
theorem dX5_add_29 : decode cX5_add 29 = .ok (.iastore, 1) := by decide +kernel
theorem dX5_add_30 : decode cX5_add 30 = .ok (.aload_n 0, 1) := by decide +kernel
theorem dX5_add_31 : decode cX5_add 31 = .ok (.getfield 9, 3) := by decide +kernel
theorem dX5_add_34 : decode cX5_add 34 = .ok (.iload_n 1, 1) := by decide +kernel
theorem dX5_add_35 : decode cX5_add 35 = .ok (.sipush 400, 3) := by decide +kernel
theorem dX5_add_38 : decode cX5_add 38 = .ok (.iadd, 1) := by decide +kernel
theorem dX5_add_39 : decode cX5_add 39 = .ok (.iaload, 1) := by decide +kernel
theorem dX5_add_40 : decode cX5_add 40 = .ok (.ireturn, 1) := by decide +kernel
theorem dX2_init_0 : decode cX2_init 0 = .ok (.aload_n 0, 1) := by decide +kernel
theorem dX2_init_1 : decode cX2_init 1 = .ok (.invokespecial 3, 3) := by decide +kernel
theorem dX2_init_4 : decode cX2_init 4 = .ok (.aload_n 0, 1) := by decide +kernel
theorem dX2_init_5 : decode cX2_init 5 = .ok (.iconst 0, 1) := by decide +kernel
theorem dX2_init_6 : decode cX2_init 6 = .ok (.putfield 9, 3) := by decide +kernel
theorem dX2_init_9 : decode cX2_init 9 = .ok (.aload_n 0, 1) := by decide +kernel
theorem dX2_init_10 : decode cX2_init 10 = .ok (.iconst 0, 1) := by decide +kernel
theorem dX2_init_11 : decode cX2_init 11 = .ok (.putfield 15, 3) := by decide +kernel
theorem dX2_init_14 : decode cX2_init 14 = .ok (.aload_n 0, 1) := by decide +kernel
theorem dX2_init_15 : decode cX2_init 15 = .ok (.iconst (-1), 1) := by decide +kernel
theorem dX2_init_16 : decode cX2_init 16 = .ok (.putfield 18, 3) := by decide +kernel
theorem dX2_init_19 : decode cX2_init 19 = .ok (.aload_n 0, 1) := by decide +kernel
theorem dX2_init_20 : decode cX2_init 20 = .ok (.new 21, 3) := by decide +kernel
theorem dX2_init_23 : decode cX2_init 23 = .ok (.dup, 1) := by decide +kernel
theorem dX2_init_24 : decode cX2_init 24 = .ok (.invokespecial 23, 3) := by decide +kernel
theorem dX2_init_27 : decode cX2_init 27 = .ok (.putfield 24, 3) := by decide +kernel
theorem dX2_init_30 : decode cX2_init 30 = .ok (.aload_n 0, 1) := by decide +kernel
theorem dX2_init_31 : decode cX2_init 31 = .ok (.sipush 800, 3) := by decide +kernel
theorem dX2_init_34 : decode cX2_init 34 = .ok (.newarray .byte, 2) := by decide +kernel
theorem dX2_init_36 : decode cX2_init 36 = .ok (.putfield 28, 3) := by decide +kernel
theorem dX2_init_39 : decode cX2_init 39 = .ok (.return_, 1) := by decide +kernel
theorem dX2_add_0 : decode cX2_add 0 = .ok (.bipush 24, 2) := by decide +kernel
theorem dX2_add_2 : decode cX2_add 2 = .ok (.istore_n 2, 1) := by decide +kernel
theorem dX2_add_3 : decode cX2_add 3 = .ok (.iload_n 2, 1) := by decide +kernel
theorem dX2_add_4 : decode cX2_add 4 = .ok (.ifCond .lt 42, 3) := by decide +kernel
theorem dX2_add_7 : decode cX2_add 7 = .ok (.aload_n 0, 1) := by decide +kernel
theorem dX2_add_8 : decode cX2_add 8 = .ok (.getfield 9, 3) := by decide +kernel
theorem dX2_add_11 : decode cX2_add 11 = .ok (.sipush 800, 3) := by decide +kernel
theorem dX2_add_14 : decode cX2_add 14 = .ok (.if_icmp .ge 26, 3) := by decide +kernel
theorem dX2_add_17 : decode cX2_add 17 = .ok (.aload_n 0, 1) := by decide +kernel
theorem dX2_add_18 : decode cX2_add 18 = .ok (.getfield 28, 3) := by decide +kernel
theorem dX2_add_21 : decode cX2_add 21 = .ok (.aload_n 0, 1) := by decide +kernel
theorem dX2_add_22 : decode cX2_add 22 = .ok (.getfield 9, 3) := by decide +kernel
theorem dX2_add_25 : decode cX2_add 25 = .ok (.iload_n 1, 1) := by decide +kernel
theorem dX2_add_26 : decode cX2_add 26 = .ok (.iload_n 2, 1) := by decide +kernel
theorem dX2_add_27 : decode cX2_add 27 = .ok (.iushr, 1) := by decide +kernel
theorem dX2_add_28 : decode cX2_add 28 = .ok (.i2b, 1) := by decide +kernel
theorem dX2_add_29 : decode cX2_add 29 = .ok (.bastore, 1) := by decide +kernel
theorem dX2_add_30 : decode cX2_add 30 = .ok (.aload_n 0, 1) := by decide +kernel
theorem dX2_add_31 : decode cX2_add 31 = .ok (.dup, 1) := by decide +kernel
theorem dX2_add_32 : decode cX2_add 32 = .ok (.getfield 9, 3) := by decide +kernel
theorem dX2_add_35 : decode cX2_add 35 = .ok (.iconst 1, 1) := by decide +kernel
theorem dX2_add_36 : decode cX2_add 36 = .ok (.iadd, 1) := by decide +kernel
theorem dX2_add_37 : decode cX2_add 37 = .ok (.putfield 9, 3) := by decide +kernel
theorem dX2_add_40 : decode cX2_add 40 = .ok (.iinc 2 (-8), 3) := by decide +kernel
theorem dX2_add_43 : decode cX2_add 43 = .ok (.goto (-40), 3) := by decide +kernel
theorem dX2_add_46 : decode cX2_add 46 = .ok (.return_, 1) := by decide +kernel
theorem dX2_read_0 : decode cX2_read 0 = .ok (.aload_n 0, 1) := by decide +kernel
theorem dX2_read_1 : decode cX2_read 1 = .ok (.getfield 24, 3) := by decide +kernel
theorem dX2_read_4 : decode cX2_read 4 = .ok (.invokevirtual 32, 3) := by decide +kernel
theorem dX2_read_7 : decode cX2_read 7 = .ok (.aload_n 0, 1) := by decide +kernel
theorem dX2_read_8 : decode cX2_read 8 = .ok (.iconst 0, 1) := by decide +kernel
theorem dX2_read_9 : decode cX2_read 9 = .ok (.putfield 15, 3) := by decide +kernel
theorem dX2_read_12 : decode cX2_read 12 = .ok (.aload_n 0, 1) := by decide +kernel
theorem dX2_read_13 : decode cX2_read 13 = .ok (.iconst (-1), 1) := by decide +kernel
theorem dX2_read_14 : decode cX2_read 14 = .ok (.putfield 18, 3) := by decide +kernel
theorem dX2_read_17 : decode cX2_read 17 = .ok (.aload_n 0, 1) := by decide +kernel
theorem dX2_read_18 : decode cX2_read 18 = .ok (.iconst 0, 1) := by decide +kernel
theorem dX2_read_19 : decode cX2_read 19 = .ok (.putfield 35, 3) := by decide +kernel
theorem dX2_read_22 : decode cX2_read 22 = .ok (.aload_n 0, 1) := by decide +kernel
theorem dX2_read_23 : decode cX2_read 23 = .ok (.invokevirtual 38, 3) := by decide +kernel
theorem dX2_read_26 : decode cX2_read 26 = .ok (.iconst 0, 1) := by decide +kernel
theorem dX2_read_27 : decode cX2_read 27 = .ok (.istore_n 1, 1) := by decide +kernel
theorem dX2_read_28 : decode cX2_read 28 = .ok (.iload_n 1, 1) := by decide +kernel
theorem dX2_read_29 : decode cX2_read 29 = .ok (.aload_n 0, 1) := by decide +kernel
theorem dX2_read_30 : decode cX2_read 30 = .ok (.getfield 9, 3) := by decide +kernel
theorem dX2_read_33 : decode cX2_read 33 = .ok (.if_icmp .gt 27, 3) := by decide +kernel
theorem dX2_read_36 : decode cX2_read 36 = .ok (.aload_n 0, 1) := by decide +kernel
theorem dX2_read_37 : decode cX2_read 37 = .ok (.getfield 41, 3) := by decide +kernel
theorem dX2_read_40 : decode cX2_read 40 = .ok (.ifCond .eq 20, 3) := by decide +kernel
theorem dX2_read_43 : decode cX2_read 43 = .ok (.aload_n 0, 1) := by decide +kernel
theorem dX2_read_44 : decode cX2_read 44 = .ok (.getfield 15, 3) := by decide +kernel
theorem dX2_read_47 : decode cX2_read 47 = .ok (.ifCond .ne 13, 3) := by decide +kernel
theorem dX2_read_50 : decode cX2_read 50 = .ok (.aload_n 0, 1) := by decide +kernel
theorem dX2_read_51 : decode cX2_read 51 = .ok (.invokevirtual 44, 3) := by decide +kernel
theorem dX2_read_54 : decode cX2_read 54 = .ok (.iinc 1 1, 3) := by decide +kernel
theorem dX2_read_57 : decode cX2_read 57 = .ok (.goto (-29), 3) := by decide +kernel
theorem dX2_read_60 : decode cX2_read 60 = .ok (.return_, 1) := by decide +kernel
theorem dX2_readLine_0 : decode cX2_readLine 0 = .ok (.aload_n 0, 1) := by decide +kernel
theorem dX2_readLine_1 : decode cX2_readLine 1 = .ok (.getfield 24, 3) := by decide +kernel
theorem dX2_readLine_4 : decode cX2_readLine 4 = .ok (.getfield 47, 3) := by decide +kernel
theorem dX2_readLine_7 : decode cX2_readLine 7 = .ok (.ifCond .ne 10, 3) := by decide +kernel
theorem dX2_readLine_10 : decode cX2_readLine 10 = .ok (.aload_n 0, 1) := by decide +kernel
theorem dX2_readLine_11 : decode cX2_readLine 11 = .ok (.invokevirtual 50, 3) := by decide +kernel
theorem dX2_readLine_14 : decode cX2_readLine 14 = .ok (.goto 72, 3) := by decide +kernel
theorem dX2_readLine_17 : decode cX2_readLine 17 = .ok (.aload_n 0, 1) := by decide +kernel
theorem dX2_readLine_18 : decode cX2_readLine 18 = .ok (.ldc 53, 2) := by decide +kernel
theorem dX2_readLine_20 : decode cX2_readLine 20 = .ok (.invokevirtual 55, 3) := by decide +kernel
theorem dX2_readLine_23 : decode cX2_readLine 23 = .ok (.ifCond .eq 10, 3) := by decide +kernel
theorem dX2_readLine_26 : decode cX2_readLine 26 = .ok (.aload_n 0, 1) := by decide +kernel
theorem dX2_readLine_27 : decode cX2_readLine 27 = .ok (.invokevirtual 59, 3) := by decide +kernel
theorem dX2_readLine_30 : decode cX2_readLine 30 = .ok (.goto 56, 3) := by decide +kernel
theorem dX2_readLine_33 : decode cX2_readLine 33 = .ok (.aload_n 0, 1) := by decide +kernel
theorem dX2_readLine_34 : decode cX2_readLine 34 = .ok (.ldc 62, 2) := by decide +kernel
theorem dX2_readLine_36 : decode cX2_readLine 36 = .ok (.invokevirtual 55, 3) := by decide +kernel
theorem dX2_readLine_39 : decode cX2_readLine 39 = .ok (.ifCond .eq 10, 3) := by decide +kernel
theorem dX2_readLine_42 : decode cX2_readLine 42 = .ok (.aload_n 0, 1) := by decide +kernel
theorem dX2_readLine_43 : decode cX2_readLine 43 = .ok (.invokevirtual 64, 3) := by decide +kernel
theorem dX2_readLine_46 : decode cX2_readLine 46 = .ok (.goto 40, 3) := by decide +kernel
theorem dX2_readLine_49 : decode cX2_readLine 49 = .ok (.aload_n 0, 1) := by decide +kernel
theorem dX2_readLine_50 : decode cX2_readLine 50 = .ok (.ldc 67, 2) := by decide +kernel
theorem dX2_readLine_52 : decode cX2_readLine 52 = .ok (.invokevirtual 55, 3) := by decide +kernel
theorem dX2_readLine_55 : decode cX2_readLine 55 = .ok (.ifCond .eq 10, 3) := by decide +kernel
theorem dX2_readLine_58 : decode cX2_readLine 58 = .ok (.aload_n 0, 1) := by decide +kernel
theorem dX2_readLine_59 : decode cX2_readLine 59 = .ok (.invokevirtual 69, 3) := by decide +kernel
theorem dX2_readLine_62 : decode cX2_readLine 62 = .ok (.goto 24, 3) := by decide +kernel
theorem dX2_readLine_65 : decode cX2_readLine 65 = .ok (.aload_n 0, 1) := by decide +kernel
theorem dX2_readLine_66 : decode cX2_readLine 66 = .ok (.ldc 72, 2) := by decide +kernel
theorem dX2_readLine_68 : decode cX2_readLine 68 = .ok (.invokevirtual 55, 3) := by decide +kernel
theorem dX2_readLine_71 : decode cX2_readLine 71 = .ok (.ifCond .eq 10, 3) := by decide +kernel
theorem dX2_readLine_74 : decode cX2_readLine 74 = .ok (.aload_n 0, 1) := by decide +kernel
theorem dX2_readLine_75 : decode cX2_readLine 75 = .ok (.invokevirtual 74, 3) := by decide +kernel
theorem dX2_readLine_78 : decode cX2_readLine 78 = .ok (.goto 8, 3) := by decide +kernel
theorem dX2_readLine_81 : decode cX2_readLine 81 = .ok (.aload_n 0, 1) := by decide +kernel
theorem dX2_readLine_82 : decode cX2_readLine 82 = .ok (.iconst 1, 1) := by decide +kernel
theorem dX2_readLine_83 : decode cX2_readLine 83 = .ok (.invokevirtual 77, 3) := by decide +kernel
theorem dX2_readLine_86 : decode cX2_readLine 86 = .ok (.aload_n 0, 1) := by decide +kernel
theorem dX2_readLine_87 : decode cX2_readLine 87 = .ok (.invokevirtual 81, 3) := by decide +kernel
theorem dX2_readLine_90 : decode cX2_readLine 90 = .ok (.aload_n 0, 1) := by decide +kernel
theorem dX2_readLine_91 : decode cX2_readLine 91 = .ok (.getfield 15, 3) := by decide +kernel
theorem dX2_readLine_94 : decode cX2_readLine 94 = .ok (.ifCond .ne 16, 3) := by decide +kernel
theorem dX2_readLine_97 : decode cX2_readLine 97 = .ok (.aload_n 0, 1) := by decide +kernel
theorem dX2_readLine_98 : decode cX2_readLine 98 = .ok (.getfield 24, 3) := by decide +kernel
theorem dX2_readLine_101 : decode cX2_readLine 101 = .ok (.dup, 1) := by decide +kernel
theorem dX2_readLine_102 : decode cX2_readLine 102 = .ok (.getfield 47, 3) := by decide +kernel
theorem dX2_readLine_105 : decode cX2_readLine 105 = .ok (.iconst 1, 1) := by decide +kernel
theorem dX2_readLine_106 : decode cX2_readLine 106 = .ok (.iadd, 1) := by decide +kernel
theorem dX2_readLine_107 : decode cX2_readLine 107 = .ok (.putfield 47, 3) := by decide +kernel
theorem dX2_readLine_110 : decode cX2_readLine 110 = .ok (.return_, 1) := by decide +kernel
theorem dX2_readTown_0 : decode cX2_readTown 0 = .ok (.aload_n 0, 1) := by decide +kernel
theorem dX2_readTown_1 : decode cX2_readTown 1 = .ok (.ldc 84, 2) := by decide +kernel
theorem dX2_readTown_3 : decode cX2_readTown 3 = .ok (.invokevirtual 86, 3) := by decide +kernel
theorem dX2_readTown_6 : decode cX2_readTown 6 = .ok (.aload_n 0, 1) := by decide +kernel
theorem dX2_readTown_7 : decode cX2_readTown 7 = .ok (.getfield 24, 3) := by decide +kernel
theorem dX2_readTown_10 : decode cX2_readTown 10 = .ok (.aload_n 0, 1) := by decide +kernel
theorem dX2_readTown_11 : decode cX2_readTown 11 = .ok (.ldc 90, 2) := by decide +kernel
theorem dX2_readTown_13 : decode cX2_readTown 13 = .ok (.iconst 1, 1) := by decide +kernel
theorem dX2_readTown_14 : decode cX2_readTown 14 = .ok (.bipush 20, 2) := by decide +kernel
theorem dX2_readTown_16 : decode cX2_readTown 16 = .ok (.invokevirtual 92, 3) := by decide +kernel
theorem dX2_readTown_19 : decode cX2_readTown 19 = .ok (.putfield 96, 3) := by decide +kernel
theorem dX2_readTown_22 : decode cX2_readTown 22 = .ok (.aload_n 0, 1) := by decide +kernel
theorem dX2_readTown_23 : decode cX2_readTown 23 = .ok (.getfield 24, 3) := by decide +kernel
theorem dX2_readTown_26 : decode cX2_readTown 26 = .ok (.aload_n 0, 1) := by decide +kernel
theorem dX2_readTown_27 : decode cX2_readTown 27 = .ok (.ldc 98, 2) := by decide +kernel
theorem dX2_readTown_29 : decode cX2_readTown 29 = .ok (.iconst 0, 1) := by decide +kernel
theorem dX2_readTown_30 : decode cX2_readTown 30 = .ok (.iconst 3, 1) := by decide +kernel
theorem dX2_readTown_31 : decode cX2_readTown 31 = .ok (.invokevirtual 92, 3) := by decide +kernel
theorem dX2_readTown_34 : decode cX2_readTown 34 = .ok (.putfield 100, 3) := by decide +kernel
theorem dX2_readTown_37 : decode cX2_readTown 37 = .ok (.aload_n 0, 1) := by decide +kernel
theorem dX2_readTown_38 : decode cX2_readTown 38 = .ok (.getfield 24, 3) := by decide +kernel
theorem dX2_readTown_41 : decode cX2_readTown 41 = .ok (.aload_n 0, 1) := by decide +kernel
theorem dX2_readTown_42 : decode cX2_readTown 42 = .ok (.ldc 102, 2) := by decide +kernel
theorem dX2_readTown_44 : decode cX2_readTown 44 = .ok (.iconst 1, 1) := by decide +kernel
theorem dX2_readTown_45 : decode cX2_readTown 45 = .ok (.bipush 30, 2) := by decide +kernel
theorem dX2_readTown_47 : decode cX2_readTown 47 = .ok (.invokevirtual 92, 3) := by decide +kernel
theorem dX2_readTown_50 : decode cX2_readTown 50 = .ok (.putfield 104, 3) := by decide +kernel
theorem dX2_readTown_53 : decode cX2_readTown 53 = .ok (.aload_n 0, 1) := by decide +kernel
theorem dX2_readTown_54 : decode cX2_readTown 54 = .ok (.getfield 24, 3) := by decide +kernel
theorem dX2_readTown_57 : decode cX2_readTown 57 = .ok (.aload_n 0, 1) := by decide +kernel
theorem dX2_readTown_58 : decode cX2_readTown 58 = .ok (.ldc 106, 2) := by decide +kernel
theorem dX2_readTown_60 : decode cX2_readTown 60 = .ok (.iconst 0, 1) := by decide +kernel
theorem dX2_readTown_61 : decode cX2_readTown 61 = .ok (.bipush 10, 2) := by decide +kernel
theorem dX2_readTown_63 : decode cX2_readTown 63 = .ok (.invokevirtual 92, 3) := by decide +kernel
theorem dX2_readTown_66 : decode cX2_readTown 66 = .ok (.putfield 108, 3) := by decide +kernel
theorem dX2_readTown_69 : decode cX2_readTown 69 = .ok (.return_, 1) := by decide +kernel
theorem dX2_readHouse_0 : decode cX2_readHouse 0 = .ok (.aload_n 0, 1) := by decide +kernel
theorem dX2_readHouse_1 : decode cX2_readHouse 1 = .ok (.aload_n 0, 1) := by decide +kernel
theorem dX2_readHouse_2 : decode cX2_readHouse 2 = .ok (.getfield 24, 3) := by decide +kernel
theorem dX2_readHouse_5 : decode cX2_readHouse 5 = .ok (.getfield 110, 3) := by decide +kernel
theorem dX2_readHouse_8 : decode cX2_readHouse 8 = .ok (.bipush 8, 2) := by decide +kernel
theorem dX2_readHouse_10 : decode cX2_readHouse 10 = .ok (.invokevirtual 113, 3) := by decide +kernel
theorem dX2_readHouse_13 : decode cX2_readHouse 13 = .ok (.aload_n 0, 1) := by decide +kernel
theorem dX2_readHouse_14 : decode cX2_readHouse 14 = .ok (.ldc 117, 2) := by decide +kernel
theorem dX2_readHouse_16 : decode cX2_readHouse 16 = .ok (.iconst 0, 1) := by decide +kernel
theorem dX2_readHouse_17 : decode cX2_readHouse 17 = .ok (.bipush 40, 2) := by decide +kernel
theorem dX2_readHouse_19 : decode cX2_readHouse 19 = .ok (.invokevirtual 92, 3) := by decide +kernel
theorem dX2_readHouse_22 : decode cX2_readHouse 22 = .ok (.istore_n 1, 1) := by decide +kernel
theorem dX2_readHouse_23 : decode cX2_readHouse 23 = .ok (.aload_n 0, 1) := by decide +kernel
theorem dX2_readHouse_24 : decode cX2_readHouse 24 = .ok (.getfield 15, 3) := by decide +kernel
theorem dX2_readHouse_27 : decode cX2_readHouse 27 = .ok (.ifCond .eq 4, 3) := by decide +kernel
theorem dX2_readHouse_30 : decode cX2_readHouse 30 = .ok (.return_, 1) := by decide +kernel
theorem dX2_readHouse_31 : decode cX2_readHouse 31 = .ok (.aload_n 0, 1) := by decide +kernel
theorem dX2_readHouse_32 : decode cX2_readHouse 32 = .ok (.ldc 119, 2) := by decide +kernel
theorem dX2_readHouse_34 : decode cX2_readHouse 34 = .ok (.invokevirtual 55, 3) := by decide +kernel
theorem dX2_readHouse_37 : decode cX2_readHouse 37 = .ok (.ifCond .eq 28, 3) := by decide +kernel
theorem dX2_readHouse_40 : decode cX2_readHouse 40 = .ok (.aload_n 0, 1) := by decide +kernel
theorem dX2_readHouse_41 : decode cX2_readHouse 41 = .ok (.getfield 24, 3) := by decide +kernel
theorem dX2_readHouse_44 : decode cX2_readHouse 44 = .ok (.dup, 1) := by decide +kernel
theorem dX2_readHouse_45 : decode cX2_readHouse 45 = .ok (.getfield 121, 3) := by decide +kernel
theorem dX2_readHouse_48 : decode cX2_readHouse 48 = .ok (.iconst 1, 1) := by decide +kernel
theorem dX2_readHouse_49 : decode cX2_readHouse 49 = .ok (.aload_n 0, 1) := by decide +kernel
theorem dX2_readHouse_50 : decode cX2_readHouse 50 = .ok (.getfield 24, 3) := by decide +kernel
theorem dX2_readHouse_53 : decode cX2_readHouse 53 = .ok (.getfield 110, 3) := by decide +kernel
theorem dX2_readHouse_56 : decode cX2_readHouse 56 = .ok (.ishl, 1) := by decide +kernel
theorem dX2_readHouse_57 : decode cX2_readHouse 57 = .ok (.ior, 1) := by decide +kernel
theorem dX2_readHouse_58 : decode cX2_readHouse 58 = .ok (.putfield 121, 3) := by decide +kernel
theorem dX2_readHouse_61 : decode cX2_readHouse 61 = .ok (.aload_n 0, 1) := by decide +kernel
theorem dX2_readHouse_62 : decode cX2_readHouse 62 = .ok (.invokevirtual 38, 3) := by decide +kernel
theorem dX2_readHouse_65 : decode cX2_readHouse 65 = .ok (.aload_n 0, 1) := by decide +kernel
theorem dX2_readHouse_66 : decode cX2_readHouse 66 = .ok (.getfield 24, 3) := by decide +kernel
theorem dX2_readHouse_69 : decode cX2_readHouse 69 = .ok (.getfield 124, 3) := by decide +kernel
theorem dX2_readHouse_72 : decode cX2_readHouse 72 = .ok (.aload_n 0, 1) := by decide +kernel
theorem dX2_readHouse_73 : decode cX2_readHouse 73 = .ok (.getfield 24, 3) := by decide +kernel
theorem dX2_readHouse_76 : decode cX2_readHouse 76 = .ok (.getfield 110, 3) := by decide +kernel
theorem dX2_readHouse_79 : decode cX2_readHouse 79 = .ok (.iload_n 1, 1) := by decide +kernel
theorem dX2_readHouse_80 : decode cX2_readHouse 80 = .ok (.iastore, 1) := by decide +kernel
theorem dX2_readHouse_81 : decode cX2_readHouse 81 = .ok (.aload_n 0, 1) := by decide +kernel
theorem dX2_readHouse_82 : decode cX2_readHouse 82 = .ok (.getfield 24, 3) := by decide +kernel
theorem dX2_readHouse_85 : decode cX2_readHouse 85 = .ok (.dup, 1) := by decide +kernel
theorem dX2_readHouse_86 : decode cX2_readHouse 86 = .ok (.getfield 110, 3) := by decide +kernel
theorem dX2_readHouse_89 : decode cX2_readHouse 89 = .ok (.iconst 1, 1) := by decide +kernel
theorem dX2_readHouse_90 : decode cX2_readHouse 90 = .ok (.iadd, 1) := by decide +kernel
theorem dX2_readHouse_91 : decode cX2_readHouse 91 = .ok (.putfield 110, 3) := by decide +kernel
theorem dX2_readHouse_94 : decode cX2_readHouse 94 = .ok (.return_, 1) := by decide +kernel
theorem dX2_readPlace_0 : decode cX2_readPlace 0 = .ok (.aload_n 0, 1) := by decide +kernel
theorem dX2_readPlace_1 : decode cX2_readPlace 1 = .ok (.aload_n 0, 1) := by decide +kernel
theorem dX2_readPlace_2 : decode cX2_readPlace 2 = .ok (.getfield 24, 3) := by decide +kernel
theorem dX2_readPlace_5 : decode cX2_readPlace 5 = .ok (.getfield 127, 3) := by decide +kernel
theorem dX2_readPlace_8 : decode cX2_readPlace 8 = .ok (.bipush 10, 2) := by decide +kernel
theorem dX2_readPlace_10 : decode cX2_readPlace 10 = .ok (.invokevirtual 113, 3) := by decide +kernel
theorem dX2_readPlace_13 : decode cX2_readPlace 13 = .ok (.aload_n 0, 1) := by decide +kernel
theorem dX2_readPlace_14 : decode cX2_readPlace 14 = .ok (.iconst 0, 1) := by decide +kernel
theorem dX2_readPlace_15 : decode cX2_readPlace 15 = .ok (.bipush 7, 2) := by decide +kernel
theorem dX2_readPlace_17 : decode cX2_readPlace 17 = .ok (.invokevirtual 130, 3) := by decide +kernel
theorem dX2_readPlace_20 : decode cX2_readPlace 20 = .ok (.istore_n 1, 1) := by decide +kernel
theorem dX2_readPlace_21 : decode cX2_readPlace 21 = .ok (.aload_n 0, 1) := by decide +kernel
theorem dX2_readPlace_22 : decode cX2_readPlace 22 = .ok (.ldc 134, 2) := by decide +kernel
theorem dX2_readPlace_24 : decode cX2_readPlace 24 = .ok (.iconst 0, 1) := by decide +kernel
theorem dX2_readPlace_25 : decode cX2_readPlace 25 = .ok (.bipush 20, 2) := by decide +kernel
theorem dX2_readPlace_27 : decode cX2_readPlace 27 = .ok (.invokevirtual 92, 3) := by decide +kernel
theorem dX2_readPlace_30 : decode cX2_readPlace 30 = .ok (.istore_n 2, 1) := by decide +kernel
theorem dX2_readPlace_31 : decode cX2_readPlace 31 = .ok (.aload_n 0, 1) := by decide +kernel
theorem dX2_readPlace_32 : decode cX2_readPlace 32 = .ok (.ldc 136, 2) := by decide +kernel
theorem dX2_readPlace_34 : decode cX2_readPlace 34 = .ok (.iconst 0, 1) := by decide +kernel
theorem dX2_readPlace_35 : decode cX2_readPlace 35 = .ok (.bipush 20, 2) := by decide +kernel
theorem dX2_readPlace_37 : decode cX2_readPlace 37 = .ok (.invokevirtual 92, 3) := by decide +kernel
theorem dX2_readPlace_40 : decode cX2_readPlace 40 = .ok (.istore_n 3, 1) := by decide +kernel
theorem dX2_readPlace_41 : decode cX2_readPlace 41 = .ok (.aload_n 0, 1) := by decide +kernel
theorem dX2_readPlace_42 : decode cX2_readPlace 42 = .ok (.getfield 15, 3) := by decide +kernel
theorem dX2_readPlace_45 : decode cX2_readPlace 45 = .ok (.ifCond .ne 36, 3) := by decide +kernel
theorem dX2_readPlace_48 : decode cX2_readPlace 48 = .ok (.aload_n 0, 1) := by decide +kernel
theorem dX2_readPlace_49 : decode cX2_readPlace 49 = .ok (.getfield 24, 3) := by decide +kernel
theorem dX2_readPlace_52 : decode cX2_readPlace 52 = .ok (.getfield 138, 3) := by decide +kernel
theorem dX2_readPlace_55 : decode cX2_readPlace 55 = .ok (.iload_n 1, 1) := by decide +kernel
theorem dX2_readPlace_56 : decode cX2_readPlace 56 = .ok (.iload_n 2, 1) := by decide +kernel
theorem dX2_readPlace_57 : decode cX2_readPlace 57 = .ok (.iastore, 1) := by decide +kernel
theorem dX2_readPlace_58 : decode cX2_readPlace 58 = .ok (.aload_n 0, 1) := by decide +kernel
theorem dX2_readPlace_59 : decode cX2_readPlace 59 = .ok (.getfield 24, 3) := by decide +kernel
theorem dX2_readPlace_62 : decode cX2_readPlace 62 = .ok (.getfield 141, 3) := by decide +kernel
theorem dX2_readPlace_65 : decode cX2_readPlace 65 = .ok (.iload_n 1, 1) := by decide +kernel
theorem dX2_readPlace_66 : decode cX2_readPlace 66 = .ok (.iload_n 3, 1) := by decide +kernel
theorem dX2_readPlace_67 : decode cX2_readPlace 67 = .ok (.iastore, 1) := by decide +kernel
theorem dX2_readPlace_68 : decode cX2_readPlace 68 = .ok (.aload_n 0, 1) := by decide +kernel
theorem dX2_readPlace_69 : decode cX2_readPlace 69 = .ok (.getfield 24, 3) := by decide +kernel
theorem dX2_readPlace_72 : decode cX2_readPlace 72 = .ok (.dup, 1) := by decide +kernel
theorem dX2_readPlace_73 : decode cX2_readPlace 73 = .ok (.getfield 127, 3) := by decide +kernel
theorem dX2_readPlace_76 : decode cX2_readPlace 76 = .ok (.iconst 1, 1) := by decide +kernel
theorem dX2_readPlace_77 : decode cX2_readPlace 77 = .ok (.iadd, 1) := by decide +kernel
theorem dX2_readPlace_78 : decode cX2_readPlace 78 = .ok (.putfield 127, 3) := by decide +kernel
theorem dX2_readPlace_81 : decode cX2_readPlace 81 = .ok (.return_, 1) := by decide +kernel
theorem dX2_readSnow_0 : decode cX2_readSnow 0 = .ok (.aload_n 0, 1) := by decide +kernel
theorem dX2_readSnow_1 : decode cX2_readSnow 1 = .ok (.aload_n 0, 1) := by decide +kernel
theorem dX2_readSnow_2 : decode cX2_readSnow 2 = .ok (.getfield 24, 3) := by decide +kernel
theorem dX2_readSnow_5 : decode cX2_readSnow 5 = .ok (.getfield 144, 3) := by decide +kernel
theorem dX2_readSnow_8 : decode cX2_readSnow 8 = .ok (.iconst 4, 1) := by decide +kernel
theorem dX2_readSnow_9 : decode cX2_readSnow 9 = .ok (.invokevirtual 113, 3) := by decide +kernel
theorem dX2_readSnow_12 : decode cX2_readSnow 12 = .ok (.aload_n 0, 1) := by decide +kernel
theorem dX2_readSnow_13 : decode cX2_readSnow 13 = .ok (.ldc 147, 2) := by decide +kernel
theorem dX2_readSnow_15 : decode cX2_readSnow 15 = .ok (.iconst 0, 1) := by decide +kernel
theorem dX2_readSnow_16 : decode cX2_readSnow 16 = .ok (.bipush 19, 2) := by decide +kernel
theorem dX2_readSnow_18 : decode cX2_readSnow 18 = .ok (.invokevirtual 92, 3) := by decide +kernel
theorem dX2_readSnow_21 : decode cX2_readSnow 21 = .ok (.istore_n 1, 1) := by decide +kernel
theorem dX2_readSnow_22 : decode cX2_readSnow 22 = .ok (.aload_n 0, 1) := by decide +kernel
theorem dX2_readSnow_23 : decode cX2_readSnow 23 = .ok (.getfield 15, 3) := by decide +kernel
theorem dX2_readSnow_26 : decode cX2_readSnow 26 = .ok (.ifCond .ne 31, 3) := by decide +kernel
theorem dX2_readSnow_29 : decode cX2_readSnow 29 = .ok (.aload_n 0, 1) := by decide +kernel
theorem dX2_readSnow_30 : decode cX2_readSnow 30 = .ok (.getfield 24, 3) := by decide +kernel
theorem dX2_readSnow_33 : decode cX2_readSnow 33 = .ok (.dup, 1) := by decide +kernel
theorem dX2_readSnow_34 : decode cX2_readSnow 34 = .ok (.getfield 149, 3) := by decide +kernel
theorem dX2_readSnow_37 : decode cX2_readSnow 37 = .ok (.iconst 1, 1) := by decide +kernel
theorem dX2_readSnow_38 : decode cX2_readSnow 38 = .ok (.iload_n 1, 1) := by decide +kernel
theorem dX2_readSnow_39 : decode cX2_readSnow 39 = .ok (.ishl, 1) := by decide +kernel
theorem dX2_readSnow_40 : decode cX2_readSnow 40 = .ok (.ior, 1) := by decide +kernel
theorem dX2_readSnow_41 : decode cX2_readSnow 41 = .ok (.putfield 149, 3) := by decide +kernel
theorem dX2_readSnow_44 : decode cX2_readSnow 44 = .ok (.aload_n 0, 1) := by decide +kernel
theorem dX2_readSnow_45 : decode cX2_readSnow 45 = .ok (.getfield 24, 3) := by decide +kernel
theorem dX2_readSnow_48 : decode cX2_readSnow 48 = .ok (.dup, 1) := by decide +kernel
theorem dX2_readSnow_49 : decode cX2_readSnow 49 = .ok (.getfield 144, 3) := by decide +kernel
theorem dX2_readSnow_52 : decode cX2_readSnow 52 = .ok (.iconst 1, 1) := by decide +kernel
theorem dX2_readSnow_53 : decode cX2_readSnow 53 = .ok (.iadd, 1) := by decide +kernel
theorem dX2_readSnow_54 : decode cX2_readSnow 54 = .ok (.putfield 144, 3) := by decide +kernel
theorem dX2_readSnow_57 : decode cX2_readSnow 57 = .ok (.return_, 1) := by decide +kernel
theorem dX2_readLetter_0 : decode cX2_readLetter 0 = .ok (.aload_n 0, 1) := by decide +kernel
theorem dX2_readLetter_1 : decode cX2_readLetter 1 = .ok (.aload_n 0, 1) := by decide +kernel
theorem dX2_readLetter_2 : decode cX2_readLetter 2 = .ok (.getfield 24, 3) := by decide +kernel
theorem dX2_readLetter_5 : decode cX2_readLetter 5 = .ok (.getfield 152, 3) := by decide +kernel
theorem dX2_readLetter_8 : decode cX2_readLetter 8 = .ok (.bipush 8, 2) := by decide +kernel
theorem dX2_readLetter_10 : decode cX2_readLetter 10 = .ok (.invokevirtual 113, 3) := by decide +kernel
theorem dX2_readLetter_13 : decode cX2_readLetter 13 = .ok (.aload_n 0, 1) := by decide +kernel
theorem dX2_readLetter_14 : decode cX2_readLetter 14 = .ok (.iconst 0, 1) := by decide +kernel
theorem dX2_readLetter_15 : decode cX2_readLetter 15 = .ok (.aload_n 0, 1) := by decide +kernel
theorem dX2_readLetter_16 : decode cX2_readLetter 16 = .ok (.getfield 24, 3) := by decide +kernel
theorem dX2_readLetter_19 : decode cX2_readLetter 19 = .ok (.getfield 110, 3) := by decide +kernel
theorem dX2_readLetter_22 : decode cX2_readLetter 22 = .ok (.iconst 1, 1) := by decide +kernel
theorem dX2_readLetter_23 : decode cX2_readLetter 23 = .ok (.isub, 1) := by decide +kernel
theorem dX2_readLetter_24 : decode cX2_readLetter 24 = .ok (.invokevirtual 130, 3) := by decide +kernel
theorem dX2_readLetter_27 : decode cX2_readLetter 27 = .ok (.istore_n 1, 1) := by decide +kernel
theorem dX2_readLetter_28 : decode cX2_readLetter 28 = .ok (.aload_n 0, 1) := by decide +kernel
theorem dX2_readLetter_29 : decode cX2_readLetter 29 = .ok (.ldc 155, 2) := by decide +kernel
theorem dX2_readLetter_31 : decode cX2_readLetter 31 = .ok (.iconst 0, 1) := by decide +kernel
theorem dX2_readLetter_32 : decode cX2_readLetter 32 = .ok (.bipush 7, 2) := by decide +kernel
theorem dX2_readLetter_34 : decode cX2_readLetter 34 = .ok (.invokevirtual 92, 3) := by decide +kernel
theorem dX2_readLetter_37 : decode cX2_readLetter 37 = .ok (.istore_n 2, 1) := by decide +kernel
theorem dX2_readLetter_38 : decode cX2_readLetter 38 = .ok (.aload_n 0, 1) := by decide +kernel
theorem dX2_readLetter_39 : decode cX2_readLetter 39 = .ok (.ldc 147, 2) := by decide +kernel
theorem dX2_readLetter_41 : decode cX2_readLetter 41 = .ok (.iconst 0, 1) := by decide +kernel
theorem dX2_readLetter_42 : decode cX2_readLetter 42 = .ok (.bipush 19, 2) := by decide +kernel
theorem dX2_readLetter_44 : decode cX2_readLetter 44 = .ok (.invokevirtual 92, 3) := by decide +kernel
theorem dX2_readLetter_47 : decode cX2_readLetter 47 = .ok (.istore_n 3, 1) := by decide +kernel
theorem dX2_readLetter_48 : decode cX2_readLetter 48 = .ok (.aload_n 0, 1) := by decide +kernel
theorem dX2_readLetter_49 : decode cX2_readLetter 49 = .ok (.getfield 15, 3) := by decide +kernel
theorem dX2_readLetter_52 : decode cX2_readLetter 52 = .ok (.ifCond .ne 64, 3) := by decide +kernel
theorem dX2_readLetter_55 : decode cX2_readLetter 55 = .ok (.aload_n 0, 1) := by decide +kernel
theorem dX2_readLetter_56 : decode cX2_readLetter 56 = .ok (.getfield 24, 3) := by decide +kernel
theorem dX2_readLetter_59 : decode cX2_readLetter 59 = .ok (.getfield 157, 3) := by decide +kernel
theorem dX2_readLetter_62 : decode cX2_readLetter 62 = .ok (.aload_n 0, 1) := by decide +kernel
theorem dX2_readLetter_63 : decode cX2_readLetter 63 = .ok (.getfield 24, 3) := by decide +kernel
theorem dX2_readLetter_66 : decode cX2_readLetter 66 = .ok (.getfield 152, 3) := by decide +kernel
theorem dX2_readLetter_69 : decode cX2_readLetter 69 = .ok (.iload_n 1, 1) := by decide +kernel
theorem dX2_readLetter_70 : decode cX2_readLetter 70 = .ok (.iastore, 1) := by decide +kernel
theorem dX2_readLetter_71 : decode cX2_readLetter 71 = .ok (.aload_n 0, 1) := by decide +kernel
theorem dX2_readLetter_72 : decode cX2_readLetter 72 = .ok (.getfield 24, 3) := by decide +kernel
theorem dX2_readLetter_75 : decode cX2_readLetter 75 = .ok (.getfield 160, 3) := by decide +kernel
theorem dX2_readLetter_78 : decode cX2_readLetter 78 = .ok (.aload_n 0, 1) := by decide +kernel
theorem dX2_readLetter_79 : decode cX2_readLetter 79 = .ok (.getfield 24, 3) := by decide +kernel
theorem dX2_readLetter_82 : decode cX2_readLetter 82 = .ok (.getfield 152, 3) := by decide +kernel
theorem dX2_readLetter_85 : decode cX2_readLetter 85 = .ok (.iload_n 2, 1) := by decide +kernel
theorem dX2_readLetter_86 : decode cX2_readLetter 86 = .ok (.iastore, 1) := by decide +kernel
theorem dX2_readLetter_87 : decode cX2_readLetter 87 = .ok (.aload_n 0, 1) := by decide +kernel
theorem dX2_readLetter_88 : decode cX2_readLetter 88 = .ok (.getfield 24, 3) := by decide +kernel
theorem dX2_readLetter_91 : decode cX2_readLetter 91 = .ok (.getfield 163, 3) := by decide +kernel
theorem dX2_readLetter_94 : decode cX2_readLetter 94 = .ok (.aload_n 0, 1) := by decide +kernel
theorem dX2_readLetter_95 : decode cX2_readLetter 95 = .ok (.getfield 24, 3) := by decide +kernel
theorem dX2_readLetter_98 : decode cX2_readLetter 98 = .ok (.getfield 152, 3) := by decide +kernel
theorem dX2_readLetter_101 : decode cX2_readLetter 101 = .ok (.iload_n 3, 1) := by decide +kernel
theorem dX2_readLetter_102 : decode cX2_readLetter 102 = .ok (.iastore, 1) := by decide +kernel
theorem dX2_readLetter_103 : decode cX2_readLetter 103 = .ok (.aload_n 0, 1) := by decide +kernel
theorem dX2_readLetter_104 : decode cX2_readLetter 104 = .ok (.getfield 24, 3) := by decide +kernel
theorem dX2_readLetter_107 : decode cX2_readLetter 107 = .ok (.dup, 1) := by decide +kernel
theorem dX2_readLetter_108 : decode cX2_readLetter 108 = .ok (.getfield 152, 3) := by decide +kernel
theorem dX2_readLetter_111 : decode cX2_readLetter 111 = .ok (.iconst 1, 1) := by decide +kernel
theorem dX2_readLetter_112 : decode cX2_readLetter 112 = .ok (.iadd, 1) := by decide +kernel
theorem dX2_readLetter_113 : decode cX2_readLetter 113 = .ok (.putfield 152, 3) := by decide +kernel
theorem dX2_readLetter_116 : decode cX2_readLetter 116 = .ok (.return_, 1) := by decide +kernel
theorem dX2_startLine_0 : decode cX2_startLine 0 = .ok (.iload_n 1, 1) := by decide +kernel
theorem dX2_startLine_1 : decode cX2_startLine 1 = .ok (.iload_n 2, 1) := by decide +kernel
theorem dX2_startLine_2 : decode cX2_startLine 2 = .ok (.if_icmp .lt 11, 3) := by decide +kernel
theorem dX2_startLine_5 : decode cX2_startLine 5 = .ok (.aload_n 0, 1) := by decide +kernel
theorem dX2_startLine_6 : decode cX2_startLine 6 = .ok (.iconst 3, 1) := by decide +kernel
theorem dX2_startLine_7 : decode cX2_startLine 7 = .ok (.invokevirtual 77, 3) := by decide +kernel
theorem dX2_startLine_10 : decode cX2_startLine 10 = .ok (.goto 7, 3) := by decide +kernel
theorem dX2_startLine_13 : decode cX2_startLine 13 = .ok (.aload_n 0, 1) := by decide +kernel
theorem dX2_startLine_14 : decode cX2_startLine 14 = .ok (.invokevirtual 38, 3) := by decide +kernel
theorem dX2_startLine_17 : decode cX2_startLine 17 = .ok (.return_, 1) := by decide +kernel
theorem dX2_takeWord_0 : decode cX2_takeWord 0 = .ok (.aload_n 0, 1) := by decide +kernel
theorem dX2_takeWord_1 : decode cX2_takeWord 1 = .ok (.getfield 15, 3) := by decide +kernel
theorem dX2_takeWord_4 : decode cX2_takeWord 4 = .ok (.ifCond .eq 4, 3) := by decide +kernel
theorem dX2_takeWord_7 : decode cX2_takeWord 7 = .ok (.return_, 1) := by decide +kernel
theorem dX2_takeWord_8 : decode cX2_takeWord 8 = .ok (.aload_n 0, 1) := by decide +kernel
theorem dX2_takeWord_9 : decode cX2_takeWord 9 = .ok (.aload_n 1, 1) := by decide +kernel
theorem dX2_takeWord_10 : decode cX2_takeWord 10 = .ok (.invokevirtual 55, 3) := by decide +kernel
theorem dX2_takeWord_13 : decode cX2_takeWord 13 = .ok (.ifCond .eq 10, 3) := by decide +kernel
theorem dX2_takeWord_16 : decode cX2_takeWord 16 = .ok (.aload_n 0, 1) := by decide +kernel
theorem dX2_takeWord_17 : decode cX2_takeWord 17 = .ok (.invokevirtual 38, 3) := by decide +kernel
theorem dX2_takeWord_20 : decode cX2_takeWord 20 = .ok (.goto 8, 3) := by decide +kernel
theorem dX2_takeWord_23 : decode cX2_takeWord 23 = .ok (.aload_n 0, 1) := by decide +kernel
theorem dX2_takeWord_24 : decode cX2_takeWord 24 = .ok (.iconst 1, 1) := by decide +kernel
theorem dX2_takeWord_25 : decode cX2_takeWord 25 = .ok (.invokevirtual 77, 3) := by decide +kernel
theorem dX2_takeWord_28 : decode cX2_takeWord 28 = .ok (.return_, 1) := by decide +kernel
theorem dX2_takeSemicolon_0 : decode cX2_takeSemicolon 0 = .ok (.aload_n 0, 1) := by decide +kernel
theorem dX2_takeSemicolon_1 : decode cX2_takeSemicolon 1 = .ok (.getfield 15, 3) := by decide +kernel
theorem dX2_takeSemicolon_4 : decode cX2_takeSemicolon 4 = .ok (.ifCond .eq 4, 3) := by decide +kernel
theorem dX2_takeSemicolon_7 : decode cX2_takeSemicolon 7 = .ok (.return_, 1) := by decide +kernel
theorem dX2_takeSemicolon_8 : decode cX2_takeSemicolon 8 = .ok (.aload_n 0, 1) := by decide +kernel
theorem dX2_takeSemicolon_9 : decode cX2_takeSemicolon 9 = .ok (.getfield 41, 3) := by decide +kernel
theorem dX2_takeSemicolon_12 : decode cX2_takeSemicolon 12 = .ok (.iconst 3, 1) := by decide +kernel
theorem dX2_takeSemicolon_13 : decode cX2_takeSemicolon 13 = .ok (.if_icmp .ne 10, 3) := by decide +kernel
theorem dX2_takeSemicolon_16 : decode cX2_takeSemicolon 16 = .ok (.aload_n 0, 1) := by decide +kernel
theorem dX2_takeSemicolon_17 : decode cX2_takeSemicolon 17 = .ok (.invokevirtual 38, 3) := by decide +kernel
theorem dX2_takeSemicolon_20 : decode cX2_takeSemicolon 20 = .ok (.goto 8, 3) := by decide +kernel
theorem dX2_takeSemicolon_23 : decode cX2_takeSemicolon 23 = .ok (.aload_n 0, 1) := by decide +kernel
theorem dX2_takeSemicolon_24 : decode cX2_takeSemicolon 24 = .ok (.iconst 1, 1) := by decide +kernel
theorem dX2_takeSemicolon_25 : decode cX2_takeSemicolon 25 = .ok (.invokevirtual 77, 3) := by decide +kernel
theorem dX2_takeSemicolon_28 : decode cX2_takeSemicolon 28 = .ok (.return_, 1) := by decide +kernel
theorem dX2_takeNumberOf_0 : decode cX2_takeNumberOf 0 = .ok (.aload_n 0, 1) := by decide +kernel
theorem dX2_takeNumberOf_1 : decode cX2_takeNumberOf 1 = .ok (.aload_n 1, 1) := by decide +kernel
theorem dX2_takeNumberOf_2 : decode cX2_takeNumberOf 2 = .ok (.invokevirtual 86, 3) := by decide +kernel
theorem dX2_takeNumberOf_5 : decode cX2_takeNumberOf 5 = .ok (.aload_n 0, 1) := by decide +kernel
theorem dX2_takeNumberOf_6 : decode cX2_takeNumberOf 6 = .ok (.iload_n 2, 1) := by decide +kernel
theorem dX2_takeNumberOf_7 : decode cX2_takeNumberOf 7 = .ok (.iload_n 3, 1) := by decide +kernel
theorem dX2_takeNumberOf_8 : decode cX2_takeNumberOf 8 = .ok (.invokevirtual 130, 3) := by decide +kernel
theorem dX2_takeNumberOf_11 : decode cX2_takeNumberOf 11 = .ok (.ireturn, 1) := by decide +kernel
theorem dX2_takeNumber_0 : decode cX2_takeNumber 0 = .ok (.aload_n 0, 1) := by decide +kernel
theorem dX2_takeNumber_1 : decode cX2_takeNumber 1 = .ok (.getfield 15, 3) := by decide +kernel
theorem dX2_takeNumber_4 : decode cX2_takeNumber 4 = .ok (.ifCond .eq 5, 3) := by decide +kernel
theorem dX2_takeNumber_7 : decode cX2_takeNumber 7 = .ok (.iload_n 1, 1) := by decide +kernel
theorem dX2_takeNumber_8 : decode cX2_takeNumber 8 = .ok (.ireturn, 1) := by decide +kernel
theorem dX2_takeNumber_9 : decode cX2_takeNumber 9 = .ok (.aload_n 0, 1) := by decide +kernel
theorem dX2_takeNumber_10 : decode cX2_takeNumber 10 = .ok (.getfield 41, 3) := by decide +kernel
theorem dX2_takeNumber_13 : decode cX2_takeNumber 13 = .ok (.iconst 2, 1) := by decide +kernel
theorem dX2_takeNumber_14 : decode cX2_takeNumber 14 = .ok (.if_icmp .eq 10, 3) := by decide +kernel
theorem dX2_takeNumber_17 : decode cX2_takeNumber 17 = .ok (.aload_n 0, 1) := by decide +kernel
theorem dX2_takeNumber_18 : decode cX2_takeNumber 18 = .ok (.iconst 1, 1) := by decide +kernel
theorem dX2_takeNumber_19 : decode cX2_takeNumber 19 = .ok (.invokevirtual 77, 3) := by decide +kernel
theorem dX2_takeNumber_22 : decode cX2_takeNumber 22 = .ok (.iload_n 1, 1) := by decide +kernel
theorem dX2_takeNumber_23 : decode cX2_takeNumber 23 = .ok (.ireturn, 1) := by decide +kernel
theorem dX2_takeNumber_24 : decode cX2_takeNumber 24 = .ok (.aload_n 0, 1) := by decide +kernel
theorem dX2_takeNumber_25 : decode cX2_takeNumber 25 = .ok (.getfield 166, 3) := by decide +kernel
theorem dX2_takeNumber_28 : decode cX2_takeNumber 28 = .ok (.iload_n 1, 1) := by decide +kernel
theorem dX2_takeNumber_29 : decode cX2_takeNumber 29 = .ok (.if_icmp .lt 11, 3) := by decide +kernel
theorem dX2_takeNumber_32 : decode cX2_takeNumber 32 = .ok (.aload_n 0, 1) := by decide +kernel
theorem dX2_takeNumber_33 : decode cX2_takeNumber 33 = .ok (.getfield 166, 3) := by decide +kernel
theorem dX2_takeNumber_36 : decode cX2_takeNumber 36 = .ok (.iload_n 2, 1) := by decide +kernel
theorem dX2_takeNumber_37 : decode cX2_takeNumber 37 = .ok (.if_icmp .le 10, 3) := by decide +kernel
theorem dX2_takeNumber_40 : decode cX2_takeNumber 40 = .ok (.aload_n 0, 1) := by decide +kernel
theorem dX2_takeNumber_41 : decode cX2_takeNumber 41 = .ok (.iconst 2, 1) := by decide +kernel
theorem dX2_takeNumber_42 : decode cX2_takeNumber 42 = .ok (.invokevirtual 77, 3) := by decide +kernel
theorem dX2_takeNumber_45 : decode cX2_takeNumber 45 = .ok (.iload_n 1, 1) := by decide +kernel
theorem dX2_takeNumber_46 : decode cX2_takeNumber 46 = .ok (.ireturn, 1) := by decide +kernel
theorem dX2_takeNumber_47 : decode cX2_takeNumber 47 = .ok (.aload_n 0, 1) := by decide +kernel
theorem dX2_takeNumber_48 : decode cX2_takeNumber 48 = .ok (.getfield 166, 3) := by decide +kernel
theorem dX2_takeNumber_51 : decode cX2_takeNumber 51 = .ok (.istore_n 3, 1) := by decide +kernel
theorem dX2_takeNumber_52 : decode cX2_takeNumber 52 = .ok (.aload_n 0, 1) := by decide +kernel
theorem dX2_takeNumber_53 : decode cX2_takeNumber 53 = .ok (.invokevirtual 38, 3) := by decide +kernel
theorem dX2_takeNumber_56 : decode cX2_takeNumber 56 = .ok (.iload_n 3, 1) := by decide +kernel
theorem dX2_takeNumber_57 : decode cX2_takeNumber 57 = .ok (.ireturn, 1) := by decide +kernel
theorem dX2_fail_0 : decode cX2_fail 0 = .ok (.aload_n 0, 1) := by decide +kernel
theorem dX2_fail_1 : decode cX2_fail 1 = .ok (.getfield 15, 3) := by decide +kernel
theorem dX2_fail_4 : decode cX2_fail 4 = .ok (.ifCond .ne 16, 3) := by decide +kernel
theorem dX2_fail_7 : decode cX2_fail 7 = .ok (.aload_n 0, 1) := by decide +kernel
theorem dX2_fail_8 : decode cX2_fail 8 = .ok (.iload_n 1, 1) := by decide +kernel
theorem dX2_fail_9 : decode cX2_fail 9 = .ok (.putfield 15, 3) := by decide +kernel
theorem dX2_fail_12 : decode cX2_fail 12 = .ok (.aload_n 0, 1) := by decide +kernel
theorem dX2_fail_13 : decode cX2_fail 13 = .ok (.aload_n 0, 1) := by decide +kernel
theorem dX2_fail_14 : decode cX2_fail 14 = .ok (.getfield 169, 3) := by decide +kernel
theorem dX2_fail_17 : decode cX2_fail 17 = .ok (.putfield 18, 3) := by decide +kernel
theorem dX2_fail_20 : decode cX2_fail 20 = .ok (.return_, 1) := by decide +kernel
theorem dX2_isWord_0 : decode cX2_isWord 0 = .ok (.aload_n 0, 1) := by decide +kernel
theorem dX2_isWord_1 : decode cX2_isWord 1 = .ok (.getfield 41, 3) := by decide +kernel
theorem dX2_isWord_4 : decode cX2_isWord 4 = .ok (.iconst 1, 1) := by decide +kernel
theorem dX2_isWord_5 : decode cX2_isWord 5 = .ok (.if_icmp .ne 19, 3) := by decide +kernel
theorem dX2_isWord_8 : decode cX2_isWord 8 = .ok (.aload_n 0, 1) := by decide +kernel
theorem dX2_isWord_9 : decode cX2_isWord 9 = .ok (.getfield 35, 3) := by decide +kernel
theorem dX2_isWord_12 : decode cX2_isWord 12 = .ok (.aload_n 0, 1) := by decide +kernel
theorem dX2_isWord_13 : decode cX2_isWord 13 = .ok (.getfield 169, 3) := by decide +kernel
theorem dX2_isWord_16 : decode cX2_isWord 16 = .ok (.isub, 1) := by decide +kernel
theorem dX2_isWord_17 : decode cX2_isWord 17 = .ok (.aload_n 1, 1) := by decide +kernel
theorem dX2_isWord_18 : decode cX2_isWord 18 = .ok (.invokevirtual 172, 3) := by decide +kernel
theorem dX2_isWord_21 : decode cX2_isWord 21 = .ok (.if_icmp .eq 5, 3) := by decide +kernel
theorem dX2_isWord_24 : decode cX2_isWord 24 = .ok (.iconst 0, 1) := by decide +kernel
theorem dX2_isWord_25 : decode cX2_isWord 25 = .ok (.ireturn, 1) := by decide +kernel
theorem dX2_isWord_26 : decode cX2_isWord 26 = .ok (.iconst 0, 1) := by decide +kernel
theorem dX2_isWord_27 : decode cX2_isWord 27 = .ok (.istore_n 2, 1) := by decide +kernel
theorem dX2_isWord_28 : decode cX2_isWord 28 = .ok (.iload_n 2, 1) := by decide +kernel
theorem dX2_isWord_29 : decode cX2_isWord 29 = .ok (.aload_n 1, 1) := by decide +kernel
theorem dX2_isWord_30 : decode cX2_isWord 30 = .ok (.invokevirtual 172, 3) := by decide +kernel
theorem dX2_isWord_33 : decode cX2_isWord 33 = .ok (.if_icmp .ge 30, 3) := by decide +kernel
theorem dX2_isWord_36 : decode cX2_isWord 36 = .ok (.aload_n 0, 1) := by decide +kernel
theorem dX2_isWord_37 : decode cX2_isWord 37 = .ok (.getfield 28, 3) := by decide +kernel
theorem dX2_isWord_40 : decode cX2_isWord 40 = .ok (.aload_n 0, 1) := by decide +kernel
theorem dX2_isWord_41 : decode cX2_isWord 41 = .ok (.getfield 169, 3) := by decide +kernel
theorem dX2_isWord_44 : decode cX2_isWord 44 = .ok (.iload_n 2, 1) := by decide +kernel
theorem dX2_isWord_45 : decode cX2_isWord 45 = .ok (.iadd, 1) := by decide +kernel
theorem dX2_isWord_46 : decode cX2_isWord 46 = .ok (.baload, 1) := by decide +kernel
theorem dX2_isWord_47 : decode cX2_isWord 47 = .ok (.aload_n 1, 1) := by decide +kernel
theorem dX2_isWord_48 : decode cX2_isWord 48 = .ok (.iload_n 2, 1) := by decide +kernel
theorem dX2_isWord_49 : decode cX2_isWord 49 = .ok (.invokevirtual 178, 3) := by decide +kernel
theorem dX2_isWord_52 : decode cX2_isWord 52 = .ok (.if_icmp .eq 5, 3) := by decide +kernel
theorem dX2_isWord_55 : decode cX2_isWord 55 = .ok (.iconst 0, 1) := by decide +kernel
theorem dX2_isWord_56 : decode cX2_isWord 56 = .ok (.ireturn, 1) := by decide +kernel
theorem dX2_isWord_57 : decode cX2_isWord 57 = .ok (.iinc 2 1, 3) := by decide +kernel
theorem dX2_isWord_60 : decode cX2_isWord 60 = .ok (.goto (-32), 3) := by decide +kernel
theorem dX2_isWord_63 : decode cX2_isWord 63 = .ok (.iconst 1, 1) := by decide +kernel
theorem dX2_isWord_64 : decode cX2_isWord 64 = .ok (.ireturn, 1) := by decide +kernel
theorem dX2_step_0 : decode cX2_step 0 = .ok (.aload_n 0, 1) := by decide +kernel
theorem dX2_step_1 : decode cX2_step 1 = .ok (.aload_n 0, 1) := by decide +kernel
theorem dX2_step_2 : decode cX2_step 2 = .ok (.getfield 35, 3) := by decide +kernel
theorem dX2_step_5 : decode cX2_step 5 = .ok (.putfield 169, 3) := by decide +kernel
theorem dX2_step_8 : decode cX2_step 8 = .ok (.aload_n 0, 1) := by decide +kernel
theorem dX2_step_9 : decode cX2_step 9 = .ok (.getfield 169, 3) := by decide +kernel
theorem dX2_step_12 : decode cX2_step 12 = .ok (.aload_n 0, 1) := by decide +kernel
theorem dX2_step_13 : decode cX2_step 13 = .ok (.getfield 9, 3) := by decide +kernel
theorem dX2_step_16 : decode cX2_step 16 = .ok (.if_icmp .ge 44, 3) := by decide +kernel
theorem dX2_step_19 : decode cX2_step 19 = .ok (.aload_n 0, 1) := by decide +kernel
theorem dX2_step_20 : decode cX2_step 20 = .ok (.getfield 28, 3) := by decide +kernel
theorem dX2_step_23 : decode cX2_step 23 = .ok (.aload_n 0, 1) := by decide +kernel
theorem dX2_step_24 : decode cX2_step 24 = .ok (.getfield 169, 3) := by decide +kernel
theorem dX2_step_27 : decode cX2_step 27 = .ok (.baload, 1) := by decide +kernel
theorem dX2_step_28 : decode cX2_step 28 = .ok (.bipush 32, 2) := by decide +kernel
theorem dX2_step_30 : decode cX2_step 30 = .ok (.if_icmp .eq 17, 3) := by decide +kernel
theorem dX2_step_33 : decode cX2_step 33 = .ok (.aload_n 0, 1) := by decide +kernel
theorem dX2_step_34 : decode cX2_step 34 = .ok (.getfield 28, 3) := by decide +kernel
theorem dX2_step_37 : decode cX2_step 37 = .ok (.aload_n 0, 1) := by decide +kernel
theorem dX2_step_38 : decode cX2_step 38 = .ok (.getfield 169, 3) := by decide +kernel
theorem dX2_step_41 : decode cX2_step 41 = .ok (.baload, 1) := by decide +kernel
theorem dX2_step_42 : decode cX2_step 42 = .ok (.bipush 10, 2) := by decide +kernel
theorem dX2_step_44 : decode cX2_step 44 = .ok (.if_icmp .ne 16, 3) := by decide +kernel
theorem dX2_step_47 : decode cX2_step 47 = .ok (.aload_n 0, 1) := by decide +kernel
theorem dX2_step_48 : decode cX2_step 48 = .ok (.dup, 1) := by decide +kernel
theorem dX2_step_49 : decode cX2_step 49 = .ok (.getfield 169, 3) := by decide +kernel
theorem dX2_step_52 : decode cX2_step 52 = .ok (.iconst 1, 1) := by decide +kernel
theorem dX2_step_53 : decode cX2_step 53 = .ok (.iadd, 1) := by decide +kernel
theorem dX2_step_54 : decode cX2_step 54 = .ok (.putfield 169, 3) := by decide +kernel
theorem dX2_step_57 : decode cX2_step 57 = .ok (.goto (-49), 3) := by decide +kernel
theorem dX2_step_60 : decode cX2_step 60 = .ok (.aload_n 0, 1) := by decide +kernel
theorem dX2_step_61 : decode cX2_step 61 = .ok (.aload_n 0, 1) := by decide +kernel
theorem dX2_step_62 : decode cX2_step 62 = .ok (.getfield 169, 3) := by decide +kernel
theorem dX2_step_65 : decode cX2_step 65 = .ok (.putfield 35, 3) := by decide +kernel
theorem dX2_step_68 : decode cX2_step 68 = .ok (.aload_n 0, 1) := by decide +kernel
theorem dX2_step_69 : decode cX2_step 69 = .ok (.iconst 0, 1) := by decide +kernel
theorem dX2_step_70 : decode cX2_step 70 = .ok (.putfield 166, 3) := by decide +kernel
theorem dX2_step_73 : decode cX2_step 73 = .ok (.aload_n 0, 1) := by decide +kernel
theorem dX2_step_74 : decode cX2_step 74 = .ok (.aload_n 0, 1) := by decide +kernel
theorem dX2_step_75 : decode cX2_step 75 = .ok (.getfield 169, 3) := by decide +kernel
theorem dX2_step_78 : decode cX2_step 78 = .ok (.aload_n 0, 1) := by decide +kernel
theorem dX2_step_79 : decode cX2_step 79 = .ok (.getfield 9, 3) := by decide +kernel
theorem dX2_step_82 : decode cX2_step 82 = .ok (.if_icmp .ge 18, 3) := by decide +kernel
theorem dX2_step_85 : decode cX2_step 85 = .ok (.aload_n 0, 1) := by decide +kernel
theorem dX2_step_86 : decode cX2_step 86 = .ok (.getfield 28, 3) := by decide +kernel
theorem dX2_step_89 : decode cX2_step 89 = .ok (.aload_n 0, 1) := by decide +kernel
theorem dX2_step_90 : decode cX2_step 90 = .ok (.getfield 169, 3) := by decide +kernel
theorem dX2_step_93 : decode cX2_step 93 = .ok (.baload, 1) := by decide +kernel
theorem dX2_step_94 : decode cX2_step 94 = .ok (.invokestatic 182, 3) := by decide +kernel
theorem dX2_step_97 : decode cX2_step 97 = .ok (.goto 4, 3) := by decide +kernel
theorem dX2_step_100 : decode cX2_step 100 = .ok (.iconst 0, 1) := by decide +kernel
theorem dX2_step_101 : decode cX2_step 101 = .ok (.putfield 41, 3) := by decide +kernel
theorem dX2_step_104 : decode cX2_step 104 = .ok (.aload_n 0, 1) := by decide +kernel
theorem dX2_step_105 : decode cX2_step 105 = .ok (.getfield 41, 3) := by decide +kernel
theorem dX2_step_108 : decode cX2_step 108 = .ok (.iconst 3, 1) := by decide +kernel
theorem dX2_step_109 : decode cX2_step 109 = .ok (.if_icmp .eq 11, 3) := by decide +kernel
theorem dX2_step_112 : decode cX2_step 112 = .ok (.aload_n 0, 1) := by decide +kernel
theorem dX2_step_113 : decode cX2_step 113 = .ok (.getfield 41, 3) := by decide +kernel
theorem dX2_step_116 : decode cX2_step 116 = .ok (.iconst 4, 1) := by decide +kernel
theorem dX2_step_117 : decode cX2_step 117 = .ok (.if_icmp .ne 14, 3) := by decide +kernel
theorem dX2_step_120 : decode cX2_step 120 = .ok (.aload_n 0, 1) := by decide +kernel
theorem dX2_step_121 : decode cX2_step 121 = .ok (.dup, 1) := by decide +kernel
theorem dX2_step_122 : decode cX2_step 122 = .ok (.getfield 35, 3) := by decide +kernel
theorem dX2_step_125 : decode cX2_step 125 = .ok (.iconst 1, 1) := by decide +kernel
theorem dX2_step_126 : decode cX2_step 126 = .ok (.iadd, 1) := by decide +kernel
theorem dX2_step_127 : decode cX2_step 127 = .ok (.putfield 35, 3) := by decide +kernel
theorem dX2_step_130 : decode cX2_step 130 = .ok (.return_, 1) := by decide +kernel
theorem dX2_step_131 : decode cX2_step 131 = .ok (.aload_n 0, 1) := by decide +kernel
theorem dX2_step_132 : decode cX2_step 132 = .ok (.getfield 35, 3) := by decide +kernel
theorem dX2_step_135 : decode cX2_step 135 = .ok (.aload_n 0, 1) := by decide +kernel
theorem dX2_step_136 : decode cX2_step 136 = .ok (.getfield 9, 3) := by decide +kernel
theorem dX2_step_139 : decode cX2_step 139 = .ok (.if_icmp .ge 72, 3) := by decide +kernel
theorem dX2_step_142 : decode cX2_step 142 = .ok (.aload_n 0, 1) := by decide +kernel
theorem dX2_step_143 : decode cX2_step 143 = .ok (.getfield 28, 3) := by decide +kernel
theorem dX2_step_146 : decode cX2_step 146 = .ok (.aload_n 0, 1) := by decide +kernel
theorem dX2_step_147 : decode cX2_step 147 = .ok (.getfield 35, 3) := by decide +kernel
theorem dX2_step_150 : decode cX2_step 150 = .ok (.baload, 1) := by decide +kernel
theorem dX2_step_151 : decode cX2_step 151 = .ok (.invokestatic 182, 3) := by decide +kernel
theorem dX2_step_154 : decode cX2_step 154 = .ok (.aload_n 0, 1) := by decide +kernel
theorem dX2_step_155 : decode cX2_step 155 = .ok (.getfield 41, 3) := by decide +kernel
theorem dX2_step_158 : decode cX2_step 158 = .ok (.if_icmp .ne 53, 3) := by decide +kernel
theorem dX2_step_161 : decode cX2_step 161 = .ok (.aload_n 0, 1) := by decide +kernel
theorem dX2_step_162 : decode cX2_step 162 = .ok (.getfield 41, 3) := by decide +kernel
theorem dX2_step_165 : decode cX2_step 165 = .ok (.iconst 2, 1) := by decide +kernel
theorem dX2_step_166 : decode cX2_step 166 = .ok (.if_icmp .ne 32, 3) := by decide +kernel
theorem dX2_step_169 : decode cX2_step 169 = .ok (.aload_n 0, 1) := by decide +kernel
theorem dX2_step_170 : decode cX2_step 170 = .ok (.ldc 186, 2) := by decide +kernel
theorem dX2_step_172 : decode cX2_step 172 = .ok (.aload_n 0, 1) := by decide +kernel
theorem dX2_step_173 : decode cX2_step 173 = .ok (.getfield 166, 3) := by decide +kernel
theorem dX2_step_176 : decode cX2_step 176 = .ok (.bipush 10, 2) := by decide +kernel
theorem dX2_step_178 : decode cX2_step 178 = .ok (.imul, 1) := by decide +kernel
theorem dX2_step_179 : decode cX2_step 179 = .ok (.aload_n 0, 1) := by decide +kernel
theorem dX2_step_180 : decode cX2_step 180 = .ok (.getfield 28, 3) := by decide +kernel
theorem dX2_step_183 : decode cX2_step 183 = .ok (.aload_n 0, 1) := by decide +kernel
theorem dX2_step_184 : decode cX2_step 184 = .ok (.getfield 35, 3) := by decide +kernel
theorem dX2_step_187 : decode cX2_step 187 = .ok (.baload, 1) := by decide +kernel
theorem dX2_step_188 : decode cX2_step 188 = .ok (.iadd, 1) := by decide +kernel
theorem dX2_step_189 : decode cX2_step 189 = .ok (.bipush 48, 2) := by decide +kernel
theorem dX2_step_191 : decode cX2_step 191 = .ok (.isub, 1) := by decide +kernel
theorem dX2_step_192 : decode cX2_step 192 = .ok (.invokestatic 187, 3) := by decide +kernel
theorem dX2_step_195 : decode cX2_step 195 = .ok (.putfield 166, 3) := by decide +kernel
theorem dX2_step_198 : decode cX2_step 198 = .ok (.aload_n 0, 1) := by decide +kernel
theorem dX2_step_199 : decode cX2_step 199 = .ok (.dup, 1) := by decide +kernel
theorem dX2_step_200 : decode cX2_step 200 = .ok (.getfield 35, 3) := by decide +kernel
theorem dX2_step_203 : decode cX2_step 203 = .ok (.iconst 1, 1) := by decide +kernel
theorem dX2_step_204 : decode cX2_step 204 = .ok (.iadd, 1) := by decide +kernel
theorem dX2_step_205 : decode cX2_step 205 = .ok (.putfield 35, 3) := by decide +kernel
theorem dX2_step_208 : decode cX2_step 208 = .ok (.goto (-77), 3) := by decide +kernel
theorem dX2_step_211 : decode cX2_step 211 = .ok (.return_, 1) := by decide +kernel
theorem dX2_kindOf_0 : decode cX2_kindOf 0 = .ok (.iload_n 0, 1) := by decide +kernel
theorem dX2_kindOf_1 : decode cX2_kindOf 1 = .ok (.bipush 97, 2) := by decide +kernel
theorem dX2_kindOf_3 : decode cX2_kindOf 3 = .ok (.if_icmp .lt 11, 3) := by decide +kernel
theorem dX2_kindOf_6 : decode cX2_kindOf 6 = .ok (.iload_n 0, 1) := by decide +kernel
theorem dX2_kindOf_7 : decode cX2_kindOf 7 = .ok (.bipush 122, 2) := by decide +kernel
theorem dX2_kindOf_9 : decode cX2_kindOf 9 = .ok (.if_icmp .gt 5, 3) := by decide +kernel
theorem dX2_kindOf_12 : decode cX2_kindOf 12 = .ok (.iconst 1, 1) := by decide +kernel
theorem dX2_kindOf_13 : decode cX2_kindOf 13 = .ok (.ireturn, 1) := by decide +kernel
theorem dX2_kindOf_14 : decode cX2_kindOf 14 = .ok (.iload_n 0, 1) := by decide +kernel
theorem dX2_kindOf_15 : decode cX2_kindOf 15 = .ok (.bipush 48, 2) := by decide +kernel
theorem dX2_kindOf_17 : decode cX2_kindOf 17 = .ok (.if_icmp .lt 11, 3) := by decide +kernel
theorem dX2_kindOf_20 : decode cX2_kindOf 20 = .ok (.iload_n 0, 1) := by decide +kernel
theorem dX2_kindOf_21 : decode cX2_kindOf 21 = .ok (.bipush 57, 2) := by decide +kernel
theorem dX2_kindOf_23 : decode cX2_kindOf 23 = .ok (.if_icmp .gt 5, 3) := by decide +kernel
theorem dX2_kindOf_26 : decode cX2_kindOf 26 = .ok (.iconst 2, 1) := by decide +kernel
theorem dX2_kindOf_27 : decode cX2_kindOf 27 = .ok (.ireturn, 1) := by decide +kernel
theorem dX2_kindOf_28 : decode cX2_kindOf 28 = .ok (.iload_n 0, 1) := by decide +kernel
theorem dX2_kindOf_29 : decode cX2_kindOf 29 = .ok (.bipush 59, 2) := by decide +kernel
theorem dX2_kindOf_31 : decode cX2_kindOf 31 = .ok (.if_icmp .ne 7, 3) := by decide +kernel
theorem dX2_kindOf_34 : decode cX2_kindOf 34 = .ok (.iconst 3, 1) := by decide +kernel
theorem dX2_kindOf_35 : decode cX2_kindOf 35 = .ok (.goto 4, 3) := by decide +kernel
theorem dX2_kindOf_38 : decode cX2_kindOf 38 = .ok (.iconst 4, 1) := by decide +kernel
theorem dX2_kindOf_39 : decode cX2_kindOf 39 = .ok (.ireturn, 1) := by decide +kernel
theorem dX6_init_0 : decode cX6_init 0 = .ok (.aload_n 0, 1) := by decide +kernel
theorem dX6_init_1 : decode cX6_init 1 = .ok (.invokespecial 3, 3) := by decide +kernel
theorem dX6_init_4 : decode cX6_init 4 = .ok (.aload_n 0, 1) := by decide +kernel
theorem dX6_init_5 : decode cX6_init 5 = .ok (.bipush 8, 2) := by decide +kernel
theorem dX6_init_7 : decode cX6_init 7 = .ok (.newarray .int, 2) := by decide +kernel
theorem dX6_init_9 : decode cX6_init 9 = .ok (.putfield 9, 3) := by decide +kernel
theorem dX6_init_12 : decode cX6_init 12 = .ok (.aload_n 0, 1) := by decide +kernel
theorem dX6_init_13 : decode cX6_init 13 = .ok (.bipush 8, 2) := by decide +kernel
theorem dX6_init_15 : decode cX6_init 15 = .ok (.newarray .int, 2) := by decide +kernel
theorem dX6_init_17 : decode cX6_init 17 = .ok (.putfield 15, 3) := by decide +kernel
theorem dX6_init_20 : decode cX6_init 20 = .ok (.aload_n 0, 1) := by decide +kernel
theorem dX6_init_21 : decode cX6_init 21 = .ok (.bipush 8, 2) := by decide +kernel
theorem dX6_init_23 : decode cX6_init 23 = .ok (.newarray .int, 2) := by decide +kernel
theorem dX6_init_25 : decode cX6_init 25 = .ok (.putfield 18, 3) := by decide +kernel
theorem dX6_init_28 : decode cX6_init 28 = .ok (.aload_n 0, 1) := by decide +kernel
theorem dX6_init_29 : decode cX6_init 29 = .ok (.bipush 8, 2) := by decide +kernel
theorem dX6_init_31 : decode cX6_init 31 = .ok (.newarray .int, 2) := by decide +kernel
theorem dX6_init_33 : decode cX6_init 33 = .ok (.putfield 21, 3) := by decide +kernel
theorem dX6_init_36 : decode cX6_init 36 = .ok (.aload_n 0, 1) := by decide +kernel
theorem dX6_init_37 : decode cX6_init 37 = .ok (.bipush 8, 2) := by decide +kernel
theorem dX6_init_39 : decode cX6_init 39 = .ok (.newarray .int, 2) := by decide +kernel
theorem dX6_init_41 : decode cX6_init 41 = .ok (.putfield 24, 3) := by decide +kernel
theorem dX6_init_44 : decode cX6_init 44 = .ok (.aload_n 0, 1) := by decide +kernel
theorem dX6_init_45 : decode cX6_init 45 = .ok (.bipush 8, 2) := by decide +kernel
theorem dX6_init_47 : decode cX6_init 47 = .ok (.newarray .int, 2) := by decide +kernel
theorem dX6_init_49 : decode cX6_init 49 = .ok (.putfield 27, 3) := by decide +kernel
theorem dX6_init_52 : decode cX6_init 52 = .ok (.aload_n 0, 1) := by decide +kernel
theorem dX6_init_53 : decode cX6_init 53 = .ok (.new 30, 3) := by decide +kernel
theorem dX6_init_56 : decode cX6_init 56 = .ok (.dup, 1) := by decide +kernel
theorem dX6_init_57 : decode cX6_init 57 = .ok (.invokespecial 32, 3) := by decide +kernel
theorem dX6_init_60 : decode cX6_init 60 = .ok (.putfield 33, 3) := by decide +kernel
theorem dX6_init_63 : decode cX6_init 63 = .ok (.return_, 1) := by decide +kernel
theorem dX6_clear_0 : decode cX6_clear 0 = .ok (.aload_n 0, 1) := by decide +kernel
theorem dX6_clear_1 : decode cX6_clear 1 = .ok (.iconst 0, 1) := by decide +kernel
theorem dX6_clear_2 : decode cX6_clear 2 = .ok (.putfield 37, 3) := by decide +kernel
theorem dX6_clear_5 : decode cX6_clear 5 = .ok (.aload_n 0, 1) := by decide +kernel
theorem dX6_clear_6 : decode cX6_clear 6 = .ok (.iconst 0, 1) := by decide +kernel
theorem dX6_clear_7 : decode cX6_clear 7 = .ok (.putfield 41, 3) := by decide +kernel
theorem dX6_clear_10 : decode cX6_clear 10 = .ok (.aload_n 0, 1) := by decide +kernel
theorem dX6_clear_11 : decode cX6_clear 11 = .ok (.iconst 0, 1) := by decide +kernel
theorem dX6_clear_12 : decode cX6_clear 12 = .ok (.putfield 44, 3) := by decide +kernel
theorem dX6_clear_15 : decode cX6_clear 15 = .ok (.aload_n 0, 1) := by decide +kernel
theorem dX6_clear_16 : decode cX6_clear 16 = .ok (.iconst 0, 1) := by decide +kernel
theorem dX6_clear_17 : decode cX6_clear 17 = .ok (.putfield 47, 3) := by decide +kernel
theorem dX6_clear_20 : decode cX6_clear 20 = .ok (.aload_n 0, 1) := by decide +kernel
theorem dX6_clear_21 : decode cX6_clear 21 = .ok (.iconst 0, 1) := by decide +kernel
theorem dX6_clear_22 : decode cX6_clear 22 = .ok (.putfield 50, 3) := by decide +kernel
theorem dX6_clear_25 : decode cX6_clear 25 = .ok (.aload_n 0, 1) := by decide +kernel
theorem dX6_clear_26 : decode cX6_clear 26 = .ok (.iconst 0, 1) := by decide +kernel
theorem dX6_clear_27 : decode cX6_clear 27 = .ok (.putfield 53, 3) := by decide +kernel
theorem dX6_clear_30 : decode cX6_clear 30 = .ok (.aload_n 0, 1) := by decide +kernel
theorem dX6_clear_31 : decode cX6_clear 31 = .ok (.iconst 0, 1) := by decide +kernel
theorem dX6_clear_32 : decode cX6_clear 32 = .ok (.putfield 56, 3) := by decide +kernel
theorem dX6_clear_35 : decode cX6_clear 35 = .ok (.aload_n 0, 1) := by decide +kernel
theorem dX6_clear_36 : decode cX6_clear 36 = .ok (.iconst 0, 1) := by decide +kernel
theorem dX6_clear_37 : decode cX6_clear 37 = .ok (.putfield 59, 3) := by decide +kernel
theorem dX6_clear_40 : decode cX6_clear 40 = .ok (.aload_n 0, 1) := by decide +kernel
theorem dX6_clear_41 : decode cX6_clear 41 = .ok (.iconst 0, 1) := by decide +kernel
theorem dX6_clear_42 : decode cX6_clear 42 = .ok (.putfield 62, 3) := by decide +kernel
theorem dX6_clear_45 : decode cX6_clear 45 = .ok (.aload_n 0, 1) := by decide +kernel
theorem dX6_clear_46 : decode cX6_clear 46 = .ok (.iconst 0, 1) := by decide +kernel
theorem dX6_clear_47 : decode cX6_clear 47 = .ok (.putfield 65, 3) := by decide +kernel
theorem dX6_clear_50 : decode cX6_clear 50 = .ok (.aload_n 0, 1) := by decide +kernel
theorem dX6_clear_51 : decode cX6_clear 51 = .ok (.iconst 0, 1) := by decide +kernel
theorem dX6_clear_52 : decode cX6_clear 52 = .ok (.putfield 68, 3) := by decide +kernel
theorem dX6_clear_55 : decode cX6_clear 55 = .ok (.aload_n 0, 1) := by decide +kernel
theorem dX6_clear_56 : decode cX6_clear 56 = .ok (.getfield 15, 3) := by decide +kernel
theorem dX6_clear_59 : decode cX6_clear 59 = .ok (.iconst 0, 1) := by decide +kernel
theorem dX6_clear_60 : decode cX6_clear 60 = .ok (.invokestatic 71, 3) := by decide +kernel
theorem dX6_clear_63 : decode cX6_clear 63 = .ok (.aload_n 0, 1) := by decide +kernel
theorem dX6_clear_64 : decode cX6_clear 64 = .ok (.getfield 18, 3) := by decide +kernel
theorem dX6_clear_67 : decode cX6_clear 67 = .ok (.iconst 0, 1) := by decide +kernel
theorem dX6_clear_68 : decode cX6_clear 68 = .ok (.invokestatic 71, 3) := by decide +kernel
theorem dX6_clear_71 : decode cX6_clear 71 = .ok (.aload_n 0, 1) := by decide +kernel
theorem dX6_clear_72 : decode cX6_clear 72 = .ok (.getfield 33, 3) := by decide +kernel
theorem dX6_clear_75 : decode cX6_clear 75 = .ok (.iconst 0, 1) := by decide +kernel
theorem dX6_clear_76 : decode cX6_clear 76 = .ok (.invokevirtual 77, 3) := by decide +kernel
theorem dX6_clear_79 : decode cX6_clear 79 = .ok (.return_, 1) := by decide +kernel
theorem dX6_copyFrom_0 : decode cX6_copyFrom 0 = .ok (.aload_n 0, 1) := by decide +kernel
theorem dX6_copyFrom_1 : decode cX6_copyFrom 1 = .ok (.aload_n 1, 1) := by decide +kernel
theorem dX6_copyFrom_2 : decode cX6_copyFrom 2 = .ok (.getfield 37, 3) := by decide +kernel
theorem dX6_copyFrom_5 : decode cX6_copyFrom 5 = .ok (.putfield 37, 3) := by decide +kernel
theorem dX6_copyFrom_8 : decode cX6_copyFrom 8 = .ok (.aload_n 0, 1) := by decide +kernel
theorem dX6_copyFrom_9 : decode cX6_copyFrom 9 = .ok (.aload_n 1, 1) := by decide +kernel
theorem dX6_copyFrom_10 : decode cX6_copyFrom 10 = .ok (.getfield 41, 3) := by decide +kernel
theorem dX6_copyFrom_13 : decode cX6_copyFrom 13 = .ok (.putfield 41, 3) := by decide +kernel
theorem dX6_copyFrom_16 : decode cX6_copyFrom 16 = .ok (.aload_n 0, 1) := by decide +kernel
theorem dX6_copyFrom_17 : decode cX6_copyFrom 17 = .ok (.aload_n 1, 1) := by decide +kernel
theorem dX6_copyFrom_18 : decode cX6_copyFrom 18 = .ok (.getfield 44, 3) := by decide +kernel
theorem dX6_copyFrom_21 : decode cX6_copyFrom 21 = .ok (.putfield 44, 3) := by decide +kernel
theorem dX6_copyFrom_24 : decode cX6_copyFrom 24 = .ok (.aload_n 0, 1) := by decide +kernel
theorem dX6_copyFrom_25 : decode cX6_copyFrom 25 = .ok (.aload_n 1, 1) := by decide +kernel
theorem dX6_copyFrom_26 : decode cX6_copyFrom 26 = .ok (.getfield 47, 3) := by decide +kernel
theorem dX6_copyFrom_29 : decode cX6_copyFrom 29 = .ok (.putfield 47, 3) := by decide +kernel
theorem dX6_copyFrom_32 : decode cX6_copyFrom 32 = .ok (.aload_n 0, 1) := by decide +kernel
theorem dX6_copyFrom_33 : decode cX6_copyFrom 33 = .ok (.aload_n 1, 1) := by decide +kernel
theorem dX6_copyFrom_34 : decode cX6_copyFrom 34 = .ok (.getfield 50, 3) := by decide +kernel
theorem dX6_copyFrom_37 : decode cX6_copyFrom 37 = .ok (.putfield 50, 3) := by decide +kernel
theorem dX6_copyFrom_40 : decode cX6_copyFrom 40 = .ok (.aload_n 0, 1) := by decide +kernel
theorem dX6_copyFrom_41 : decode cX6_copyFrom 41 = .ok (.aload_n 1, 1) := by decide +kernel
theorem dX6_copyFrom_42 : decode cX6_copyFrom 42 = .ok (.getfield 53, 3) := by decide +kernel
theorem dX6_copyFrom_45 : decode cX6_copyFrom 45 = .ok (.putfield 53, 3) := by decide +kernel
theorem dX6_copyFrom_48 : decode cX6_copyFrom 48 = .ok (.aload_n 0, 1) := by decide +kernel
theorem dX6_copyFrom_49 : decode cX6_copyFrom 49 = .ok (.aload_n 1, 1) := by decide +kernel
theorem dX6_copyFrom_50 : decode cX6_copyFrom 50 = .ok (.getfield 56, 3) := by decide +kernel
theorem dX6_copyFrom_53 : decode cX6_copyFrom 53 = .ok (.putfield 56, 3) := by decide +kernel
theorem dX6_copyFrom_56 : decode cX6_copyFrom 56 = .ok (.aload_n 0, 1) := by decide +kernel
theorem dX6_copyFrom_57 : decode cX6_copyFrom 57 = .ok (.aload_n 1, 1) := by decide +kernel
theorem dX6_copyFrom_58 : decode cX6_copyFrom 58 = .ok (.getfield 59, 3) := by decide +kernel
theorem dX6_copyFrom_61 : decode cX6_copyFrom 61 = .ok (.putfield 59, 3) := by decide +kernel
theorem dX6_copyFrom_64 : decode cX6_copyFrom 64 = .ok (.aload_n 0, 1) := by decide +kernel
theorem dX6_copyFrom_65 : decode cX6_copyFrom 65 = .ok (.aload_n 1, 1) := by decide +kernel
theorem dX6_copyFrom_66 : decode cX6_copyFrom 66 = .ok (.getfield 62, 3) := by decide +kernel
theorem dX6_copyFrom_69 : decode cX6_copyFrom 69 = .ok (.putfield 62, 3) := by decide +kernel
theorem dX6_copyFrom_72 : decode cX6_copyFrom 72 = .ok (.aload_n 0, 1) := by decide +kernel
theorem dX6_copyFrom_73 : decode cX6_copyFrom 73 = .ok (.aload_n 1, 1) := by decide +kernel
theorem dX6_copyFrom_74 : decode cX6_copyFrom 74 = .ok (.getfield 65, 3) := by decide +kernel
theorem dX6_copyFrom_77 : decode cX6_copyFrom 77 = .ok (.putfield 65, 3) := by decide +kernel
theorem dX6_copyFrom_80 : decode cX6_copyFrom 80 = .ok (.aload_n 0, 1) := by decide +kernel
theorem dX6_copyFrom_81 : decode cX6_copyFrom 81 = .ok (.aload_n 1, 1) := by decide +kernel
theorem dX6_copyFrom_82 : decode cX6_copyFrom 82 = .ok (.getfield 68, 3) := by decide +kernel
theorem dX6_copyFrom_85 : decode cX6_copyFrom 85 = .ok (.putfield 68, 3) := by decide +kernel
theorem dX6_copyFrom_88 : decode cX6_copyFrom 88 = .ok (.aload_n 1, 1) := by decide +kernel
theorem dX6_copyFrom_89 : decode cX6_copyFrom 89 = .ok (.getfield 9, 3) := by decide +kernel
theorem dX6_copyFrom_92 : decode cX6_copyFrom 92 = .ok (.iconst 0, 1) := by decide +kernel
theorem dX6_copyFrom_93 : decode cX6_copyFrom 93 = .ok (.aload_n 0, 1) := by decide +kernel
theorem dX6_copyFrom_94 : decode cX6_copyFrom 94 = .ok (.getfield 9, 3) := by decide +kernel
theorem dX6_copyFrom_97 : decode cX6_copyFrom 97 = .ok (.iconst 0, 1) := by decide +kernel
theorem dX6_copyFrom_98 : decode cX6_copyFrom 98 = .ok (.bipush 8, 2) := by decide +kernel
theorem dX6_copyFrom_100 : decode cX6_copyFrom 100 = .ok (.invokestatic 81, 3) := by decide +kernel
theorem dX6_copyFrom_103 : decode cX6_copyFrom 103 = .ok (.aload_n 1, 1) := by decide +kernel
theorem dX6_copyFrom_104 : decode cX6_copyFrom 104 = .ok (.getfield 15, 3) := by decide +kernel
theorem dX6_copyFrom_107 : decode cX6_copyFrom 107 = .ok (.iconst 0, 1) := by decide +kernel
theorem dX6_copyFrom_108 : decode cX6_copyFrom 108 = .ok (.aload_n 0, 1) := by decide +kernel
theorem dX6_copyFrom_109 : decode cX6_copyFrom 109 = .ok (.getfield 15, 3) := by decide +kernel
theorem dX6_copyFrom_112 : decode cX6_copyFrom 112 = .ok (.iconst 0, 1) := by decide +kernel
theorem dX6_copyFrom_113 : decode cX6_copyFrom 113 = .ok (.bipush 8, 2) := by decide +kernel
theorem dX6_copyFrom_115 : decode cX6_copyFrom 115 = .ok (.invokestatic 81, 3) := by decide +kernel
theorem dX6_copyFrom_118 : decode cX6_copyFrom 118 = .ok (.aload_n 1, 1) := by decide +kernel
theorem dX6_copyFrom_119 : decode cX6_copyFrom 119 = .ok (.getfield 18, 3) := by decide +kernel
theorem dX6_copyFrom_122 : decode cX6_copyFrom 122 = .ok (.iconst 0, 1) := by decide +kernel
theorem dX6_copyFrom_123 : decode cX6_copyFrom 123 = .ok (.aload_n 0, 1) := by decide +kernel
theorem dX6_copyFrom_124 : decode cX6_copyFrom 124 = .ok (.getfield 18, 3) := by decide +kernel
theorem dX6_copyFrom_127 : decode cX6_copyFrom 127 = .ok (.iconst 0, 1) := by decide +kernel
theorem dX6_copyFrom_128 : decode cX6_copyFrom 128 = .ok (.bipush 8, 2) := by decide +kernel
theorem dX6_copyFrom_130 : decode cX6_copyFrom 130 = .ok (.invokestatic 81, 3) := by decide +kernel
theorem dX6_copyFrom_133 : decode cX6_copyFrom 133 = .ok (.aload_n 1, 1) := by decide +kernel
theorem dX6_copyFrom_134 : decode cX6_copyFrom 134 = .ok (.getfield 21, 3) := by decide +kernel
theorem dX6_copyFrom_137 : decode cX6_copyFrom 137 = .ok (.iconst 0, 1) := by decide +kernel
theorem dX6_copyFrom_138 : decode cX6_copyFrom 138 = .ok (.aload_n 0, 1) := by decide +kernel
theorem dX6_copyFrom_139 : decode cX6_copyFrom 139 = .ok (.getfield 21, 3) := by decide +kernel
theorem dX6_copyFrom_142 : decode cX6_copyFrom 142 = .ok (.iconst 0, 1) := by decide +kernel
theorem dX6_copyFrom_143 : decode cX6_copyFrom 143 = .ok (.bipush 8, 2) := by decide +kernel
theorem dX6_copyFrom_145 : decode cX6_copyFrom 145 = .ok (.invokestatic 81, 3) := by decide +kernel
theorem dX6_copyFrom_148 : decode cX6_copyFrom 148 = .ok (.aload_n 1, 1) := by decide +kernel
theorem dX6_copyFrom_149 : decode cX6_copyFrom 149 = .ok (.getfield 24, 3) := by decide +kernel
theorem dX6_copyFrom_152 : decode cX6_copyFrom 152 = .ok (.iconst 0, 1) := by decide +kernel
theorem dX6_copyFrom_153 : decode cX6_copyFrom 153 = .ok (.aload_n 0, 1) := by decide +kernel
theorem dX6_copyFrom_154 : decode cX6_copyFrom 154 = .ok (.getfield 24, 3) := by decide +kernel
theorem dX6_copyFrom_157 : decode cX6_copyFrom 157 = .ok (.iconst 0, 1) := by decide +kernel
theorem dX6_copyFrom_158 : decode cX6_copyFrom 158 = .ok (.bipush 8, 2) := by decide +kernel
theorem dX6_copyFrom_160 : decode cX6_copyFrom 160 = .ok (.invokestatic 81, 3) := by decide +kernel
theorem dX6_copyFrom_163 : decode cX6_copyFrom 163 = .ok (.aload_n 1, 1) := by decide +kernel
theorem dX6_copyFrom_164 : decode cX6_copyFrom 164 = .ok (.getfield 27, 3) := by decide +kernel
theorem dX6_copyFrom_167 : decode cX6_copyFrom 167 = .ok (.iconst 0, 1) := by decide +kernel
theorem dX6_copyFrom_168 : decode cX6_copyFrom 168 = .ok (.aload_n 0, 1) := by decide +kernel
theorem dX6_copyFrom_169 : decode cX6_copyFrom 169 = .ok (.getfield 27, 3) := by decide +kernel
theorem dX6_copyFrom_172 : decode cX6_copyFrom 172 = .ok (.iconst 0, 1) := by decide +kernel
theorem dX6_copyFrom_173 : decode cX6_copyFrom 173 = .ok (.bipush 8, 2) := by decide +kernel
theorem dX6_copyFrom_175 : decode cX6_copyFrom 175 = .ok (.invokestatic 81, 3) := by decide +kernel
theorem dX6_copyFrom_178 : decode cX6_copyFrom 178 = .ok (.aload_n 0, 1) := by decide +kernel
theorem dX6_copyFrom_179 : decode cX6_copyFrom 179 = .ok (.getfield 33, 3) := by decide +kernel
theorem dX6_copyFrom_182 : decode cX6_copyFrom 182 = .ok (.aload_n 1, 1) := by decide +kernel
theorem dX6_copyFrom_183 : decode cX6_copyFrom 183 = .ok (.getfield 33, 3) := by decide +kernel
theorem dX6_copyFrom_186 : decode cX6_copyFrom 186 = .ok (.invokevirtual 87, 3) := by decide +kernel
theorem dX6_copyFrom_189 : decode cX6_copyFrom 189 = .ok (.return_, 1) := by decide +kernel
theorem dX7_init_0 : decode cX7_init 0 = .ok (.aload_n 0, 1) := by decide +kernel
theorem dX7_init_1 : decode cX7_init 1 = .ok (.invokespecial 3, 3) := by decide +kernel
theorem dX7_init_4 : decode cX7_init 4 = .ok (.aload_n 0, 1) := by decide +kernel
theorem dX7_init_5 : decode cX7_init 5 = .ok (.sipush 168, 3) := by decide +kernel
theorem dX7_init_8 : decode cX7_init 8 = .ok (.newarray .int, 2) := by decide +kernel
theorem dX7_init_10 : decode cX7_init 10 = .ok (.putfield 9, 3) := by decide +kernel
theorem dX7_init_13 : decode cX7_init 13 = .ok (.aload_n 0, 1) := by decide +kernel
theorem dX7_init_14 : decode cX7_init 14 = .ok (.sipush 160, 3) := by decide +kernel
theorem dX7_init_17 : decode cX7_init 17 = .ok (.newarray .int, 2) := by decide +kernel
theorem dX7_init_19 : decode cX7_init 19 = .ok (.putfield 15, 3) := by decide +kernel
theorem dX7_init_22 : decode cX7_init 22 = .ok (.aload_n 0, 1) := by decide +kernel
theorem dX7_init_23 : decode cX7_init 23 = .ok (.bipush 20, 2) := by decide +kernel
theorem dX7_init_25 : decode cX7_init 25 = .ok (.newarray .int, 2) := by decide +kernel
theorem dX7_init_27 : decode cX7_init 27 = .ok (.putfield 18, 3) := by decide +kernel
theorem dX7_init_30 : decode cX7_init 30 = .ok (.aload_n 0, 1) := by decide +kernel
theorem dX7_init_31 : decode cX7_init 31 = .ok (.bipush 20, 2) := by decide +kernel
theorem dX7_init_33 : decode cX7_init 33 = .ok (.newarray .int, 2) := by decide +kernel
theorem dX7_init_35 : decode cX7_init 35 = .ok (.putfield 21, 3) := by decide +kernel
theorem dX7_init_38 : decode cX7_init 38 = .ok (.return_, 1) := by decide +kernel
theorem dX7_spot_0 : decode cX7_spot 0 = .ok (.aload_n 0, 1) := by decide +kernel
theorem dX7_spot_1 : decode cX7_spot 1 = .ok (.getfield 9, 3) := by decide +kernel
theorem dX7_spot_4 : decode cX7_spot 4 = .ok (.iload_n 2, 1) := by decide +kernel
theorem dX7_spot_5 : decode cX7_spot 5 = .ok (.bipush 8, 2) := by decide +kernel
theorem dX7_spot_7 : decode cX7_spot 7 = .ok (.imul, 1) := by decide +kernel
theorem dX7_spot_8 : decode cX7_spot 8 = .ok (.iload_n 1, 1) := by decide +kernel
theorem dX7_spot_9 : decode cX7_spot 9 = .ok (.iadd, 1) := by decide +kernel
theorem dX7_spot_10 : decode cX7_spot 10 = .ok (.iaload, 1) := by decide +kernel
theorem dX7_spot_11 : decode cX7_spot 11 = .ok (.ireturn, 1) := by decide +kernel
theorem dX7_effort_0 : decode cX7_effort 0 = .ok (.aload_n 0, 1) := by decide +kernel
theorem dX7_effort_1 : decode cX7_effort 1 = .ok (.getfield 15, 3) := by decide +kernel
theorem dX7_effort_4 : decode cX7_effort 4 = .ok (.iload_n 2, 1) := by decide +kernel
theorem dX7_effort_5 : decode cX7_effort 5 = .ok (.bipush 8, 2) := by decide +kernel
theorem dX7_effort_7 : decode cX7_effort 7 = .ok (.imul, 1) := by decide +kernel
theorem dX7_effort_8 : decode cX7_effort 8 = .ok (.iload_n 1, 1) := by decide +kernel
theorem dX7_effort_9 : decode cX7_effort 9 = .ok (.iadd, 1) := by decide +kernel
theorem dX7_effort_10 : decode cX7_effort 10 = .ok (.iaload, 1) := by decide +kernel
theorem dX7_effort_11 : decode cX7_effort 11 = .ok (.ireturn, 1) := by decide +kernel
theorem dX7_houseOn_0 : decode cX7_houseOn 0 = .ok (.iconst 0, 1) := by decide +kernel
theorem dX7_houseOn_1 : decode cX7_houseOn 1 = .ok (.istore 4, 2) := by decide +kernel
theorem dX7_houseOn_3 : decode cX7_houseOn 3 = .ok (.iload 4, 2) := by decide +kernel
theorem dX7_houseOn_5 : decode cX7_houseOn 5 = .ok (.iload_n 3, 1) := by decide +kernel
theorem dX7_houseOn_6 : decode cX7_houseOn 6 = .ok (.if_icmp .ge 23, 3) := by decide +kernel
theorem dX7_houseOn_9 : decode cX7_houseOn 9 = .ok (.aload_n 0, 1) := by decide +kernel
theorem dX7_houseOn_10 : decode cX7_houseOn 10 = .ok (.iload 4, 2) := by decide +kernel
theorem dX7_houseOn_12 : decode cX7_houseOn 12 = .ok (.iload_n 2, 1) := by decide +kernel
theorem dX7_houseOn_13 : decode cX7_houseOn 13 = .ok (.invokevirtual 24, 3) := by decide +kernel
theorem dX7_houseOn_16 : decode cX7_houseOn 16 = .ok (.iload_n 1, 1) := by decide +kernel
theorem dX7_houseOn_17 : decode cX7_houseOn 17 = .ok (.if_icmp .ne 6, 3) := by decide +kernel
theorem dX7_houseOn_20 : decode cX7_houseOn 20 = .ok (.iload 4, 2) := by decide +kernel
theorem dX7_houseOn_22 : decode cX7_houseOn 22 = .ok (.ireturn, 1) := by decide +kernel
theorem dX7_houseOn_23 : decode cX7_houseOn 23 = .ok (.iinc 4 1, 3) := by decide +kernel
theorem dX7_houseOn_26 : decode cX7_houseOn 26 = .ok (.goto (-23), 3) := by decide +kernel
theorem dX7_houseOn_29 : decode cX7_houseOn 29 = .ok (.iconst (-1), 1) := by decide +kernel
theorem dX7_houseOn_30 : decode cX7_houseOn 30 = .ok (.ireturn, 1) := by decide +kernel
theorem dX7_follow_0 : decode cX7_follow 0 = .ok (.iconst 0, 1) := by decide +kernel
theorem dX7_follow_1 : decode cX7_follow 1 = .ok (.istore_n 3, 1) := by decide +kernel
theorem dX7_follow_2 : decode cX7_follow 2 = .ok (.iload_n 3, 1) := by decide +kernel
theorem dX7_follow_3 : decode cX7_follow 3 = .ok (.aload_n 1, 1) := by decide +kernel
theorem dX7_follow_4 : decode cX7_follow 4 = .ok (.getfield 28, 3) := by decide +kernel
theorem dX7_follow_7 : decode cX7_follow 7 = .ok (.if_icmp .ge 16, 3) := by decide +kernel
theorem dX7_follow_10 : decode cX7_follow 10 = .ok (.aload_n 0, 1) := by decide +kernel
theorem dX7_follow_11 : decode cX7_follow 11 = .ok (.getfield 9, 3) := by decide +kernel
theorem dX7_follow_14 : decode cX7_follow 14 = .ok (.iload_n 3, 1) := by decide +kernel
theorem dX7_follow_15 : decode cX7_follow 15 = .ok (.iload_n 3, 1) := by decide +kernel
theorem dX7_follow_16 : decode cX7_follow 16 = .ok (.iastore, 1) := by decide +kernel
theorem dX7_follow_17 : decode cX7_follow 17 = .ok (.iinc 3 1, 3) := by decide +kernel
theorem dX7_follow_20 : decode cX7_follow 20 = .ok (.goto (-18), 3) := by decide +kernel
theorem dX7_follow_23 : decode cX7_follow 23 = .ok (.aload_n 2, 1) := by decide +kernel
theorem dX7_follow_24 : decode cX7_follow 24 = .ok (.getfield 34, 3) := by decide +kernel
theorem dX7_follow_27 : decode cX7_follow 27 = .ok (.iconst (-1), 1) := by decide +kernel
theorem dX7_follow_28 : decode cX7_follow 28 = .ok (.if_icmp .eq 16, 3) := by decide +kernel
theorem dX7_follow_31 : decode cX7_follow 31 = .ok (.aload_n 0, 1) := by decide +kernel
theorem dX7_follow_32 : decode cX7_follow 32 = .ok (.aload_n 2, 1) := by decide +kernel
theorem dX7_follow_33 : decode cX7_follow 33 = .ok (.getfield 34, 3) := by decide +kernel
theorem dX7_follow_36 : decode cX7_follow 36 = .ok (.aload_n 2, 1) := by decide +kernel
theorem dX7_follow_37 : decode cX7_follow 37 = .ok (.getfield 39, 3) := by decide +kernel
theorem dX7_follow_40 : decode cX7_follow 40 = .ok (.iconst 0, 1) := by decide +kernel
theorem dX7_follow_41 : decode cX7_follow 41 = .ok (.invokevirtual 42, 3) := by decide +kernel
theorem dX7_follow_44 : decode cX7_follow 44 = .ok (.iconst 0, 1) := by decide +kernel
theorem dX7_follow_45 : decode cX7_follow 45 = .ok (.istore_n 3, 1) := by decide +kernel
theorem dX7_follow_46 : decode cX7_follow 46 = .ok (.iload_n 3, 1) := by decide +kernel
theorem dX7_follow_47 : decode cX7_follow 47 = .ok (.aload_n 2, 1) := by decide +kernel
theorem dX7_follow_48 : decode cX7_follow 48 = .ok (.getfield 46, 3) := by decide +kernel
theorem dX7_follow_51 : decode cX7_follow 51 = .ok (.if_icmp .ge 62, 3) := by decide +kernel
theorem dX7_follow_54 : decode cX7_follow 54 = .ok (.aload_n 0, 1) := by decide +kernel
theorem dX7_follow_55 : decode cX7_follow 55 = .ok (.aload_n 1, 1) := by decide +kernel
theorem dX7_follow_56 : decode cX7_follow 56 = .ok (.getfield 49, 3) := by decide +kernel
theorem dX7_follow_59 : decode cX7_follow 59 = .ok (.iload_n 3, 1) := by decide +kernel
theorem dX7_follow_60 : decode cX7_follow 60 = .ok (.invokevirtual 53, 3) := by decide +kernel
theorem dX7_follow_63 : decode cX7_follow 63 = .ok (.aload_n 0, 1) := by decide +kernel
theorem dX7_follow_64 : decode cX7_follow 64 = .ok (.aload_n 1, 1) := by decide +kernel
theorem dX7_follow_65 : decode cX7_follow 65 = .ok (.aload_n 2, 1) := by decide +kernel
theorem dX7_follow_66 : decode cX7_follow 66 = .ok (.iload_n 3, 1) := by decide +kernel
theorem dX7_follow_67 : decode cX7_follow 67 = .ok (.invokevirtual 57, 3) := by decide +kernel
theorem dX7_follow_70 : decode cX7_follow 70 = .ok (.aload_n 0, 1) := by decide +kernel
theorem dX7_follow_71 : decode cX7_follow 71 = .ok (.getfield 21, 3) := by decide +kernel
theorem dX7_follow_74 : decode cX7_follow 74 = .ok (.iload_n 3, 1) := by decide +kernel
theorem dX7_follow_75 : decode cX7_follow 75 = .ok (.aload_n 2, 1) := by decide +kernel
theorem dX7_follow_76 : decode cX7_follow 76 = .ok (.getfield 61, 3) := by decide +kernel
theorem dX7_follow_79 : decode cX7_follow 79 = .ok (.aload_n 2, 1) := by decide +kernel
theorem dX7_follow_80 : decode cX7_follow 80 = .ok (.getfield 64, 3) := by decide +kernel
theorem dX7_follow_83 : decode cX7_follow 83 = .ok (.aload_n 0, 1) := by decide +kernel
theorem dX7_follow_84 : decode cX7_follow 84 = .ok (.getfield 18, 3) := by decide +kernel
theorem dX7_follow_87 : decode cX7_follow 87 = .ok (.iload_n 3, 1) := by decide +kernel
theorem dX7_follow_88 : decode cX7_follow 88 = .ok (.iaload, 1) := by decide +kernel
theorem dX7_follow_89 : decode cX7_follow 89 = .ok (.iload_n 3, 1) := by decide +kernel
theorem dX7_follow_90 : decode cX7_follow 90 = .ok (.aload_n 1, 1) := by decide +kernel
theorem dX7_follow_91 : decode cX7_follow 91 = .ok (.getfield 28, 3) := by decide +kernel
theorem dX7_follow_94 : decode cX7_follow 94 = .ok (.invokestatic 67, 3) := by decide +kernel
theorem dX7_follow_97 : decode cX7_follow 97 = .ok (.iastore, 1) := by decide +kernel
theorem dX7_follow_98 : decode cX7_follow 98 = .ok (.aload_n 0, 1) := by decide +kernel
theorem dX7_follow_99 : decode cX7_follow 99 = .ok (.aload_n 1, 1) := by decide +kernel
theorem dX7_follow_100 : decode cX7_follow 100 = .ok (.getfield 28, 3) := by decide +kernel
theorem dX7_follow_103 : decode cX7_follow 103 = .ok (.iload_n 3, 1) := by decide +kernel
theorem dX7_follow_104 : decode cX7_follow 104 = .ok (.invokevirtual 71, 3) := by decide +kernel
theorem dX7_follow_107 : decode cX7_follow 107 = .ok (.iinc 3 1, 3) := by decide +kernel
theorem dX7_follow_110 : decode cX7_follow 110 = .ok (.goto (-64), 3) := by decide +kernel
theorem dX7_follow_113 : decode cX7_follow 113 = .ok (.aload_n 0, 1) := by decide +kernel
theorem dX7_follow_114 : decode cX7_follow 114 = .ok (.aload_n 1, 1) := by decide +kernel
theorem dX7_follow_115 : decode cX7_follow 115 = .ok (.getfield 49, 3) := by decide +kernel
theorem dX7_follow_118 : decode cX7_follow 118 = .ok (.aload_n 2, 1) := by decide +kernel
theorem dX7_follow_119 : decode cX7_follow 119 = .ok (.getfield 46, 3) := by decide +kernel
theorem dX7_follow_122 : decode cX7_follow 122 = .ok (.invokevirtual 53, 3) := by decide +kernel
theorem dX7_follow_125 : decode cX7_follow 125 = .ok (.return_, 1) := by decide +kernel
theorem dX7_exchangeAll_0 : decode cX7_exchangeAll 0 = .ok (.aload_n 1, 1) := by decide +kernel
theorem dX7_exchangeAll_1 : decode cX7_exchangeAll 1 = .ok (.getfield 75, 3) := by decide +kernel
theorem dX7_exchangeAll_4 : decode cX7_exchangeAll 4 = .ok (.iload_n 2, 1) := by decide +kernel
theorem dX7_exchangeAll_5 : decode cX7_exchangeAll 5 = .ok (.invokestatic 80, 3) := by decide +kernel
theorem dX7_exchangeAll_8 : decode cX7_exchangeAll 8 = .ok (.ifCond .ne 4, 3) := by decide +kernel
theorem dX7_exchangeAll_11 : decode cX7_exchangeAll 11 = .ok (.return_, 1) := by decide +kernel
theorem dX7_exchangeAll_12 : decode cX7_exchangeAll 12 = .ok (.iconst 0, 1) := by decide +kernel
theorem dX7_exchangeAll_13 : decode cX7_exchangeAll 13 = .ok (.istore_n 3, 1) := by decide +kernel
theorem dX7_exchangeAll_14 : decode cX7_exchangeAll 14 = .ok (.iload_n 3, 1) := by decide +kernel
theorem dX7_exchangeAll_15 : decode cX7_exchangeAll 15 = .ok (.aload_n 1, 1) := by decide +kernel
theorem dX7_exchangeAll_16 : decode cX7_exchangeAll 16 = .ok (.getfield 83, 3) := by decide +kernel
theorem dX7_exchangeAll_19 : decode cX7_exchangeAll 19 = .ok (.if_icmp .ge 46, 3) := by decide +kernel
theorem dX7_exchangeAll_22 : decode cX7_exchangeAll 22 = .ok (.aload_n 1, 1) := by decide +kernel
theorem dX7_exchangeAll_23 : decode cX7_exchangeAll 23 = .ok (.getfield 86, 3) := by decide +kernel
theorem dX7_exchangeAll_26 : decode cX7_exchangeAll 26 = .ok (.iload_n 3, 1) := by decide +kernel
theorem dX7_exchangeAll_27 : decode cX7_exchangeAll 27 = .ok (.iaload, 1) := by decide +kernel
theorem dX7_exchangeAll_28 : decode cX7_exchangeAll 28 = .ok (.iload_n 2, 1) := by decide +kernel
theorem dX7_exchangeAll_29 : decode cX7_exchangeAll 29 = .ok (.if_icmp .ne 30, 3) := by decide +kernel
theorem dX7_exchangeAll_32 : decode cX7_exchangeAll 32 = .ok (.aload_n 1, 1) := by decide +kernel
theorem dX7_exchangeAll_33 : decode cX7_exchangeAll 33 = .ok (.getfield 89, 3) := by decide +kernel
theorem dX7_exchangeAll_36 : decode cX7_exchangeAll 36 = .ok (.iload_n 3, 1) := by decide +kernel
theorem dX7_exchangeAll_37 : decode cX7_exchangeAll 37 = .ok (.iaload, 1) := by decide +kernel
theorem dX7_exchangeAll_38 : decode cX7_exchangeAll 38 = .ok (.iconst (-1), 1) := by decide +kernel
theorem dX7_exchangeAll_39 : decode cX7_exchangeAll 39 = .ok (.if_icmp .eq 20, 3) := by decide +kernel
theorem dX7_exchangeAll_42 : decode cX7_exchangeAll 42 = .ok (.aload_n 0, 1) := by decide +kernel
theorem dX7_exchangeAll_43 : decode cX7_exchangeAll 43 = .ok (.aload_n 1, 1) := by decide +kernel
theorem dX7_exchangeAll_44 : decode cX7_exchangeAll 44 = .ok (.getfield 92, 3) := by decide +kernel
theorem dX7_exchangeAll_47 : decode cX7_exchangeAll 47 = .ok (.iload_n 3, 1) := by decide +kernel
theorem dX7_exchangeAll_48 : decode cX7_exchangeAll 48 = .ok (.iaload, 1) := by decide +kernel
theorem dX7_exchangeAll_49 : decode cX7_exchangeAll 49 = .ok (.aload_n 1, 1) := by decide +kernel
theorem dX7_exchangeAll_50 : decode cX7_exchangeAll 50 = .ok (.getfield 89, 3) := by decide +kernel
theorem dX7_exchangeAll_53 : decode cX7_exchangeAll 53 = .ok (.iload_n 3, 1) := by decide +kernel
theorem dX7_exchangeAll_54 : decode cX7_exchangeAll 54 = .ok (.iaload, 1) := by decide +kernel
theorem dX7_exchangeAll_55 : decode cX7_exchangeAll 55 = .ok (.iload_n 2, 1) := by decide +kernel
theorem dX7_exchangeAll_56 : decode cX7_exchangeAll 56 = .ok (.invokevirtual 42, 3) := by decide +kernel
theorem dX7_exchangeAll_59 : decode cX7_exchangeAll 59 = .ok (.iinc 3 1, 3) := by decide +kernel
theorem dX7_exchangeAll_62 : decode cX7_exchangeAll 62 = .ok (.goto (-48), 3) := by decide +kernel
theorem dX7_exchangeAll_65 : decode cX7_exchangeAll 65 = .ok (.return_, 1) := by decide +kernel
theorem dX7_exchange_0 : decode cX7_exchange 0 = .ok (.aload_n 0, 1) := by decide +kernel
theorem dX7_exchange_1 : decode cX7_exchange 1 = .ok (.iload_n 1, 1) := by decide +kernel
theorem dX7_exchange_2 : decode cX7_exchange 2 = .ok (.iload_n 3, 1) := by decide +kernel
theorem dX7_exchange_3 : decode cX7_exchange 3 = .ok (.invokevirtual 24, 3) := by decide +kernel
theorem dX7_exchange_6 : decode cX7_exchange 6 = .ok (.istore 4, 2) := by decide +kernel
theorem dX7_exchange_8 : decode cX7_exchange 8 = .ok (.aload_n 0, 1) := by decide +kernel
theorem dX7_exchange_9 : decode cX7_exchange 9 = .ok (.getfield 9, 3) := by decide +kernel
theorem dX7_exchange_12 : decode cX7_exchange 12 = .ok (.iload_n 3, 1) := by decide +kernel
theorem dX7_exchange_13 : decode cX7_exchange 13 = .ok (.bipush 8, 2) := by decide +kernel
theorem dX7_exchange_15 : decode cX7_exchange 15 = .ok (.imul, 1) := by decide +kernel
theorem dX7_exchange_16 : decode cX7_exchange 16 = .ok (.iload_n 1, 1) := by decide +kernel
theorem dX7_exchange_17 : decode cX7_exchange 17 = .ok (.iadd, 1) := by decide +kernel
theorem dX7_exchange_18 : decode cX7_exchange 18 = .ok (.aload_n 0, 1) := by decide +kernel
theorem dX7_exchange_19 : decode cX7_exchange 19 = .ok (.iload_n 2, 1) := by decide +kernel
theorem dX7_exchange_20 : decode cX7_exchange 20 = .ok (.iload_n 3, 1) := by decide +kernel
theorem dX7_exchange_21 : decode cX7_exchange 21 = .ok (.invokevirtual 24, 3) := by decide +kernel
theorem dX7_exchange_24 : decode cX7_exchange 24 = .ok (.iastore, 1) := by decide +kernel
theorem dX7_exchange_25 : decode cX7_exchange 25 = .ok (.aload_n 0, 1) := by decide +kernel
theorem dX7_exchange_26 : decode cX7_exchange 26 = .ok (.getfield 9, 3) := by decide +kernel
theorem dX7_exchange_29 : decode cX7_exchange 29 = .ok (.iload_n 3, 1) := by decide +kernel
theorem dX7_exchange_30 : decode cX7_exchange 30 = .ok (.bipush 8, 2) := by decide +kernel
theorem dX7_exchange_32 : decode cX7_exchange 32 = .ok (.imul, 1) := by decide +kernel
theorem dX7_exchange_33 : decode cX7_exchange 33 = .ok (.iload_n 2, 1) := by decide +kernel
theorem dX7_exchange_34 : decode cX7_exchange 34 = .ok (.iadd, 1) := by decide +kernel
theorem dX7_exchange_35 : decode cX7_exchange 35 = .ok (.iload 4, 2) := by decide +kernel
theorem dX7_exchange_37 : decode cX7_exchange 37 = .ok (.iastore, 1) := by decide +kernel
theorem dX7_exchange_38 : decode cX7_exchange 38 = .ok (.return_, 1) := by decide +kernel
theorem dX7_pushAll_0 : decode cX7_pushAll 0 = .ok (.aload_n 2, 1) := by decide +kernel
theorem dX7_pushAll_1 : decode cX7_pushAll 1 = .ok (.getfield 95, 3) := by decide +kernel
theorem dX7_pushAll_4 : decode cX7_pushAll 4 = .ok (.aload_n 1, 1) := by decide +kernel
theorem dX7_pushAll_5 : decode cX7_pushAll 5 = .ok (.getfield 49, 3) := by decide +kernel
theorem dX7_pushAll_8 : decode cX7_pushAll 8 = .ok (.getfield 98, 3) := by decide +kernel
theorem dX7_pushAll_11 : decode cX7_pushAll 11 = .ok (.iload_n 3, 1) := by decide +kernel
theorem dX7_pushAll_12 : decode cX7_pushAll 12 = .ok (.iaload, 1) := by decide +kernel
theorem dX7_pushAll_13 : decode cX7_pushAll 13 = .ok (.ior, 1) := by decide +kernel
theorem dX7_pushAll_14 : decode cX7_pushAll 14 = .ok (.istore 4, 2) := by decide +kernel
theorem dX7_pushAll_16 : decode cX7_pushAll 16 = .ok (.aload_n 2, 1) := by decide +kernel
theorem dX7_pushAll_17 : decode cX7_pushAll 17 = .ok (.getfield 100, 3) := by decide +kernel
theorem dX7_pushAll_20 : decode cX7_pushAll 20 = .ok (.iload_n 3, 1) := by decide +kernel
theorem dX7_pushAll_21 : decode cX7_pushAll 21 = .ok (.invokestatic 80, 3) := by decide +kernel
theorem dX7_pushAll_24 : decode cX7_pushAll 24 = .ok (.iconst 1, 1) := by decide +kernel
theorem dX7_pushAll_25 : decode cX7_pushAll 25 = .ok (.if_icmp .ne 7, 3) := by decide +kernel
theorem dX7_pushAll_28 : decode cX7_pushAll 28 = .ok (.iconst 1, 1) := by decide +kernel
theorem dX7_pushAll_29 : decode cX7_pushAll 29 = .ok (.goto 4, 3) := by decide +kernel
theorem dX7_pushAll_32 : decode cX7_pushAll 32 = .ok (.iconst 0, 1) := by decide +kernel
theorem dX7_pushAll_33 : decode cX7_pushAll 33 = .ok (.istore 5, 2) := by decide +kernel
theorem dX7_pushAll_35 : decode cX7_pushAll 35 = .ok (.iconst 0, 1) := by decide +kernel
theorem dX7_pushAll_36 : decode cX7_pushAll 36 = .ok (.istore 6, 2) := by decide +kernel
theorem dX7_pushAll_38 : decode cX7_pushAll 38 = .ok (.iconst 0, 1) := by decide +kernel
theorem dX7_pushAll_39 : decode cX7_pushAll 39 = .ok (.istore 7, 2) := by decide +kernel
theorem dX7_pushAll_41 : decode cX7_pushAll 41 = .ok (.iload 7, 2) := by decide +kernel
theorem dX7_pushAll_43 : decode cX7_pushAll 43 = .ok (.aload_n 1, 1) := by decide +kernel
theorem dX7_pushAll_44 : decode cX7_pushAll 44 = .ok (.getfield 28, 3) := by decide +kernel
theorem dX7_pushAll_47 : decode cX7_pushAll 47 = .ok (.if_icmp .ge 116, 3) := by decide +kernel
theorem dX7_pushAll_50 : decode cX7_pushAll 50 = .ok (.aload_n 0, 1) := by decide +kernel
theorem dX7_pushAll_51 : decode cX7_pushAll 51 = .ok (.iload 7, 2) := by decide +kernel
theorem dX7_pushAll_53 : decode cX7_pushAll 53 = .ok (.iload_n 3, 1) := by decide +kernel
theorem dX7_pushAll_54 : decode cX7_pushAll 54 = .ok (.invokevirtual 24, 3) := by decide +kernel
theorem dX7_pushAll_57 : decode cX7_pushAll 57 = .ok (.istore 8, 2) := by decide +kernel
theorem dX7_pushAll_59 : decode cX7_pushAll 59 = .ok (.iload 4, 2) := by decide +kernel
theorem dX7_pushAll_61 : decode cX7_pushAll 61 = .ok (.iload 7, 2) := by decide +kernel
theorem dX7_pushAll_63 : decode cX7_pushAll 63 = .ok (.invokestatic 80, 3) := by decide +kernel
theorem dX7_pushAll_66 : decode cX7_pushAll 66 = .ok (.ifCond .ne 28, 3) := by decide +kernel
theorem dX7_pushAll_69 : decode cX7_pushAll 69 = .ok (.iload 5, 2) := by decide +kernel
theorem dX7_pushAll_71 : decode cX7_pushAll 71 = .ok (.ifCond .eq 19, 3) := by decide +kernel
theorem dX7_pushAll_74 : decode cX7_pushAll 74 = .ok (.iload 8, 2) := by decide +kernel
theorem dX7_pushAll_76 : decode cX7_pushAll 76 = .ok (.ifCond .eq 14, 3) := by decide +kernel
theorem dX7_pushAll_79 : decode cX7_pushAll 79 = .ok (.iload 8, 2) := by decide +kernel
theorem dX7_pushAll_81 : decode cX7_pushAll 81 = .ok (.aload_n 1, 1) := by decide +kernel
theorem dX7_pushAll_82 : decode cX7_pushAll 82 = .ok (.getfield 28, 3) := by decide +kernel
theorem dX7_pushAll_85 : decode cX7_pushAll 85 = .ok (.iconst 1, 1) := by decide +kernel
theorem dX7_pushAll_86 : decode cX7_pushAll 86 = .ok (.isub, 1) := by decide +kernel
theorem dX7_pushAll_87 : decode cX7_pushAll 87 = .ok (.if_icmp .ne 7, 3) := by decide +kernel
theorem dX7_pushAll_90 : decode cX7_pushAll 90 = .ok (.iconst 1, 1) := by decide +kernel
theorem dX7_pushAll_91 : decode cX7_pushAll 91 = .ok (.goto 4, 3) := by decide +kernel
theorem dX7_pushAll_94 : decode cX7_pushAll 94 = .ok (.iconst 0, 1) := by decide +kernel
theorem dX7_pushAll_95 : decode cX7_pushAll 95 = .ok (.istore 9, 2) := by decide +kernel
theorem dX7_pushAll_97 : decode cX7_pushAll 97 = .ok (.iload 9, 2) := by decide +kernel
theorem dX7_pushAll_99 : decode cX7_pushAll 99 = .ok (.ifCond .eq 25, 3) := by decide +kernel
theorem dX7_pushAll_102 : decode cX7_pushAll 102 = .ok (.iconst 0, 1) := by decide +kernel
theorem dX7_pushAll_103 : decode cX7_pushAll 103 = .ok (.aload_n 1, 1) := by decide +kernel
theorem dX7_pushAll_104 : decode cX7_pushAll 104 = .ok (.getfield 103, 3) := by decide +kernel
theorem dX7_pushAll_107 : decode cX7_pushAll 107 = .ok (.iload 7, 2) := by decide +kernel
theorem dX7_pushAll_109 : decode cX7_pushAll 109 = .ok (.iaload, 1) := by decide +kernel
theorem dX7_pushAll_110 : decode cX7_pushAll 110 = .ok (.aload_n 1, 1) := by decide +kernel
theorem dX7_pushAll_111 : decode cX7_pushAll 111 = .ok (.getfield 106, 3) := by decide +kernel
theorem dX7_pushAll_114 : decode cX7_pushAll 114 = .ok (.iload 8, 2) := by decide +kernel
theorem dX7_pushAll_116 : decode cX7_pushAll 116 = .ok (.iaload, 1) := by decide +kernel
theorem dX7_pushAll_117 : decode cX7_pushAll 117 = .ok (.isub, 1) := by decide +kernel
theorem dX7_pushAll_118 : decode cX7_pushAll 118 = .ok (.invokestatic 109, 3) := by decide +kernel
theorem dX7_pushAll_121 : decode cX7_pushAll 121 = .ok (.goto 4, 3) := by decide +kernel
theorem dX7_pushAll_124 : decode cX7_pushAll 124 = .ok (.iconst 0, 1) := by decide +kernel
theorem dX7_pushAll_125 : decode cX7_pushAll 125 = .ok (.istore 10, 2) := by decide +kernel
theorem dX7_pushAll_127 : decode cX7_pushAll 127 = .ok (.aload_n 0, 1) := by decide +kernel
theorem dX7_pushAll_128 : decode cX7_pushAll 128 = .ok (.getfield 15, 3) := by decide +kernel
theorem dX7_pushAll_131 : decode cX7_pushAll 131 = .ok (.iload_n 3, 1) := by decide +kernel
theorem dX7_pushAll_132 : decode cX7_pushAll 132 = .ok (.bipush 8, 2) := by decide +kernel
theorem dX7_pushAll_134 : decode cX7_pushAll 134 = .ok (.imul, 1) := by decide +kernel
theorem dX7_pushAll_135 : decode cX7_pushAll 135 = .ok (.iload 7, 2) := by decide +kernel
theorem dX7_pushAll_137 : decode cX7_pushAll 137 = .ok (.iadd, 1) := by decide +kernel
theorem dX7_pushAll_138 : decode cX7_pushAll 138 = .ok (.iload 10, 2) := by decide +kernel
theorem dX7_pushAll_140 : decode cX7_pushAll 140 = .ok (.iastore, 1) := by decide +kernel
theorem dX7_pushAll_141 : decode cX7_pushAll 141 = .ok (.iload 6, 2) := by decide +kernel
theorem dX7_pushAll_143 : decode cX7_pushAll 143 = .ok (.iload 10, 2) := by decide +kernel
theorem dX7_pushAll_145 : decode cX7_pushAll 145 = .ok (.aload_n 2, 1) := by decide +kernel
theorem dX7_pushAll_146 : decode cX7_pushAll 146 = .ok (.getfield 114, 3) := by decide +kernel
theorem dX7_pushAll_149 : decode cX7_pushAll 149 = .ok (.iload 7, 2) := by decide +kernel
theorem dX7_pushAll_151 : decode cX7_pushAll 151 = .ok (.invokestatic 117, 3) := by decide +kernel
theorem dX7_pushAll_154 : decode cX7_pushAll 154 = .ok (.iadd, 1) := by decide +kernel
theorem dX7_pushAll_155 : decode cX7_pushAll 155 = .ok (.istore 6, 2) := by decide +kernel
theorem dX7_pushAll_157 : decode cX7_pushAll 157 = .ok (.iinc 7 1, 3) := by decide +kernel
theorem dX7_pushAll_160 : decode cX7_pushAll 160 = .ok (.goto (-119), 3) := by decide +kernel
theorem dX7_pushAll_163 : decode cX7_pushAll 163 = .ok (.aload_n 0, 1) := by decide +kernel
theorem dX7_pushAll_164 : decode cX7_pushAll 164 = .ok (.getfield 18, 3) := by decide +kernel
theorem dX7_pushAll_167 : decode cX7_pushAll 167 = .ok (.iload_n 3, 1) := by decide +kernel
theorem dX7_pushAll_168 : decode cX7_pushAll 168 = .ok (.iload 6, 2) := by decide +kernel
theorem dX7_pushAll_170 : decode cX7_pushAll 170 = .ok (.iastore, 1) := by decide +kernel
theorem dX7_pushAll_171 : decode cX7_pushAll 171 = .ok (.return_, 1) := by decide +kernel
theorem dX7_carryAll_0 : decode cX7_carryAll 0 = .ok (.iconst 0, 1) := by decide +kernel
theorem dX7_carryAll_1 : decode cX7_carryAll 1 = .ok (.istore_n 3, 1) := by decide +kernel
theorem dX7_carryAll_2 : decode cX7_carryAll 2 = .ok (.iload_n 3, 1) := by decide +kernel
theorem dX7_carryAll_3 : decode cX7_carryAll 3 = .ok (.iload_n 1, 1) := by decide +kernel
theorem dX7_carryAll_4 : decode cX7_carryAll 4 = .ok (.if_icmp .ge 39, 3) := by decide +kernel
theorem dX7_carryAll_7 : decode cX7_carryAll 7 = .ok (.aload_n 0, 1) := by decide +kernel
theorem dX7_carryAll_8 : decode cX7_carryAll 8 = .ok (.getfield 9, 3) := by decide +kernel
theorem dX7_carryAll_11 : decode cX7_carryAll 11 = .ok (.iload_n 2, 1) := by decide +kernel
theorem dX7_carryAll_12 : decode cX7_carryAll 12 = .ok (.iconst 1, 1) := by decide +kernel
theorem dX7_carryAll_13 : decode cX7_carryAll 13 = .ok (.iadd, 1) := by decide +kernel
theorem dX7_carryAll_14 : decode cX7_carryAll 14 = .ok (.bipush 8, 2) := by decide +kernel
theorem dX7_carryAll_16 : decode cX7_carryAll 16 = .ok (.imul, 1) := by decide +kernel
theorem dX7_carryAll_17 : decode cX7_carryAll 17 = .ok (.iload_n 3, 1) := by decide +kernel
theorem dX7_carryAll_18 : decode cX7_carryAll 18 = .ok (.iadd, 1) := by decide +kernel
theorem dX7_carryAll_19 : decode cX7_carryAll 19 = .ok (.aload_n 0, 1) := by decide +kernel
theorem dX7_carryAll_20 : decode cX7_carryAll 20 = .ok (.iload_n 3, 1) := by decide +kernel
theorem dX7_carryAll_21 : decode cX7_carryAll 21 = .ok (.iload_n 2, 1) := by decide +kernel
theorem dX7_carryAll_22 : decode cX7_carryAll 22 = .ok (.invokevirtual 24, 3) := by decide +kernel
theorem dX7_carryAll_25 : decode cX7_carryAll 25 = .ok (.aload_n 0, 1) := by decide +kernel
theorem dX7_carryAll_26 : decode cX7_carryAll 26 = .ok (.getfield 21, 3) := by decide +kernel
theorem dX7_carryAll_29 : decode cX7_carryAll 29 = .ok (.iload_n 2, 1) := by decide +kernel
theorem dX7_carryAll_30 : decode cX7_carryAll 30 = .ok (.iaload, 1) := by decide +kernel
theorem dX7_carryAll_31 : decode cX7_carryAll 31 = .ok (.iadd, 1) := by decide +kernel
theorem dX7_carryAll_32 : decode cX7_carryAll 32 = .ok (.iload_n 1, 1) := by decide +kernel
theorem dX7_carryAll_33 : decode cX7_carryAll 33 = .ok (.invokestatic 121, 3) := by decide +kernel
theorem dX7_carryAll_36 : decode cX7_carryAll 36 = .ok (.iastore, 1) := by decide +kernel
theorem dX7_carryAll_37 : decode cX7_carryAll 37 = .ok (.iinc 3 1, 3) := by decide +kernel
theorem dX7_carryAll_40 : decode cX7_carryAll 40 = .ok (.goto (-38), 3) := by decide +kernel
theorem dX7_carryAll_43 : decode cX7_carryAll 43 = .ok (.return_, 1) := by decide +kernel
theorem dX7_sunTo_0 : decode cX7_sunTo 0 = .ok (.iconst 0, 1) := by decide +kernel
theorem dX7_sunTo_1 : decode cX7_sunTo 1 = .ok (.istore 4, 2) := by decide +kernel
theorem dX7_sunTo_3 : decode cX7_sunTo 3 = .ok (.iconst 0, 1) := by decide +kernel
theorem dX7_sunTo_4 : decode cX7_sunTo 4 = .ok (.istore 5, 2) := by decide +kernel
theorem dX7_sunTo_6 : decode cX7_sunTo 6 = .ok (.iload 5, 2) := by decide +kernel
theorem dX7_sunTo_8 : decode cX7_sunTo 8 = .ok (.iload_n 3, 1) := by decide +kernel
theorem dX7_sunTo_9 : decode cX7_sunTo 9 = .ok (.if_icmp .gt 26, 3) := by decide +kernel
theorem dX7_sunTo_12 : decode cX7_sunTo 12 = .ok (.iload 4, 2) := by decide +kernel
theorem dX7_sunTo_14 : decode cX7_sunTo 14 = .ok (.aload_n 1, 1) := by decide +kernel
theorem dX7_sunTo_15 : decode cX7_sunTo 15 = .ok (.getfield 124, 3) := by decide +kernel
theorem dX7_sunTo_18 : decode cX7_sunTo 18 = .ok (.aload_n 0, 1) := by decide +kernel
theorem dX7_sunTo_19 : decode cX7_sunTo 19 = .ok (.iload_n 2, 1) := by decide +kernel
theorem dX7_sunTo_20 : decode cX7_sunTo 20 = .ok (.iload 5, 2) := by decide +kernel
theorem dX7_sunTo_22 : decode cX7_sunTo 22 = .ok (.invokevirtual 24, 3) := by decide +kernel
theorem dX7_sunTo_25 : decode cX7_sunTo 25 = .ok (.iaload, 1) := by decide +kernel
theorem dX7_sunTo_26 : decode cX7_sunTo 26 = .ok (.iadd, 1) := by decide +kernel
theorem dX7_sunTo_27 : decode cX7_sunTo 27 = .ok (.istore 4, 2) := by decide +kernel
theorem dX7_sunTo_29 : decode cX7_sunTo 29 = .ok (.iinc 5 1, 3) := by decide +kernel
theorem dX7_sunTo_32 : decode cX7_sunTo 32 = .ok (.goto (-26), 3) := by decide +kernel
theorem dX7_sunTo_35 : decode cX7_sunTo 35 = .ok (.iload 4, 2) := by decide +kernel
theorem dX7_sunTo_37 : decode cX7_sunTo 37 = .ok (.ireturn, 1) := by decide +kernel
theorem dX7_spread_0 : decode cX7_spread 0 = .ok (.aload_n 1, 1) := by decide +kernel
theorem dX7_spread_1 : decode cX7_spread 1 = .ok (.getfield 28, 3) := by decide +kernel
theorem dX7_spread_4 : decode cX7_spread 4 = .ok (.ifCond .ne 5, 3) := by decide +kernel
theorem dX7_spread_7 : decode cX7_spread 7 = .ok (.iconst 0, 1) := by decide +kernel
theorem dX7_spread_8 : decode cX7_spread 8 = .ok (.ireturn, 1) := by decide +kernel
theorem dX7_spread_9 : decode cX7_spread 9 = .ok (.aload_n 0, 1) := by decide +kernel
theorem dX7_spread_10 : decode cX7_spread 10 = .ok (.aload_n 1, 1) := by decide +kernel
theorem dX7_spread_11 : decode cX7_spread 11 = .ok (.iconst 0, 1) := by decide +kernel
theorem dX7_spread_12 : decode cX7_spread 12 = .ok (.aload_n 1, 1) := by decide +kernel
theorem dX7_spread_13 : decode cX7_spread 13 = .ok (.getfield 127, 3) := by decide +kernel
theorem dX7_spread_16 : decode cX7_spread 16 = .ok (.invokevirtual 130, 3) := by decide +kernel
theorem dX7_spread_19 : decode cX7_spread 19 = .ok (.istore_n 2, 1) := by decide +kernel
theorem dX7_spread_20 : decode cX7_spread 20 = .ok (.iload_n 2, 1) := by decide +kernel
theorem dX7_spread_21 : decode cX7_spread 21 = .ok (.istore_n 3, 1) := by decide +kernel
theorem dX7_spread_22 : decode cX7_spread 22 = .ok (.iconst 1, 1) := by decide +kernel
theorem dX7_spread_23 : decode cX7_spread 23 = .ok (.istore 4, 2) := by decide +kernel
theorem dX7_spread_25 : decode cX7_spread 25 = .ok (.iload 4, 2) := by decide +kernel
theorem dX7_spread_27 : decode cX7_spread 27 = .ok (.aload_n 1, 1) := by decide +kernel
theorem dX7_spread_28 : decode cX7_spread 28 = .ok (.getfield 28, 3) := by decide +kernel
theorem dX7_spread_31 : decode cX7_spread 31 = .ok (.if_icmp .ge 36, 3) := by decide +kernel
theorem dX7_spread_34 : decode cX7_spread 34 = .ok (.aload_n 0, 1) := by decide +kernel
theorem dX7_spread_35 : decode cX7_spread 35 = .ok (.aload_n 1, 1) := by decide +kernel
theorem dX7_spread_36 : decode cX7_spread 36 = .ok (.iload 4, 2) := by decide +kernel
theorem dX7_spread_38 : decode cX7_spread 38 = .ok (.aload_n 1, 1) := by decide +kernel
theorem dX7_spread_39 : decode cX7_spread 39 = .ok (.getfield 127, 3) := by decide +kernel
theorem dX7_spread_42 : decode cX7_spread 42 = .ok (.invokevirtual 130, 3) := by decide +kernel
theorem dX7_spread_45 : decode cX7_spread 45 = .ok (.istore 5, 2) := by decide +kernel
theorem dX7_spread_47 : decode cX7_spread 47 = .ok (.iload_n 2, 1) := by decide +kernel
theorem dX7_spread_48 : decode cX7_spread 48 = .ok (.iload 5, 2) := by decide +kernel
theorem dX7_spread_50 : decode cX7_spread 50 = .ok (.invokestatic 134, 3) := by decide +kernel
theorem dX7_spread_53 : decode cX7_spread 53 = .ok (.istore_n 2, 1) := by decide +kernel
theorem dX7_spread_54 : decode cX7_spread 54 = .ok (.iload_n 3, 1) := by decide +kernel
theorem dX7_spread_55 : decode cX7_spread 55 = .ok (.iload 5, 2) := by decide +kernel
theorem dX7_spread_57 : decode cX7_spread 57 = .ok (.invokestatic 109, 3) := by decide +kernel
theorem dX7_spread_60 : decode cX7_spread 60 = .ok (.istore_n 3, 1) := by decide +kernel
theorem dX7_spread_61 : decode cX7_spread 61 = .ok (.iinc 4 1, 3) := by decide +kernel
theorem dX7_spread_64 : decode cX7_spread 64 = .ok (.goto (-39), 3) := by decide +kernel
theorem dX7_spread_67 : decode cX7_spread 67 = .ok (.iload_n 3, 1) := by decide +kernel
theorem dX7_spread_68 : decode cX7_spread 68 = .ok (.iload_n 2, 1) := by decide +kernel
theorem dX7_spread_69 : decode cX7_spread 69 = .ok (.isub, 1) := by decide +kernel
theorem dX7_spread_70 : decode cX7_spread 70 = .ok (.ireturn, 1) := by decide +kernel
theorem dX7_reaches_0 : decode cX7_reaches 0 = .ok (.aload_n 1, 1) := by decide +kernel
theorem dX7_reaches_1 : decode cX7_reaches 1 = .ok (.getfield 137, 3) := by decide +kernel
theorem dX7_reaches_4 : decode cX7_reaches 4 = .ok (.iload_n 2, 1) := by decide +kernel
theorem dX7_reaches_5 : decode cX7_reaches 5 = .ok (.iaload, 1) := by decide +kernel
theorem dX7_reaches_6 : decode cX7_reaches 6 = .ok (.istore_n 3, 1) := by decide +kernel
theorem dX7_reaches_7 : decode cX7_reaches 7 = .ok (.iload_n 3, 1) := by decide +kernel
theorem dX7_reaches_8 : decode cX7_reaches 8 = .ok (.aload_n 1, 1) := by decide +kernel
theorem dX7_reaches_9 : decode cX7_reaches 9 = .ok (.getfield 127, 3) := by decide +kernel
theorem dX7_reaches_12 : decode cX7_reaches 12 = .ok (.if_icmp .gt 27, 3) := by decide +kernel
theorem dX7_reaches_15 : decode cX7_reaches 15 = .ok (.aload_n 0, 1) := by decide +kernel
theorem dX7_reaches_16 : decode cX7_reaches 16 = .ok (.aload_n 1, 1) := by decide +kernel
theorem dX7_reaches_17 : decode cX7_reaches 17 = .ok (.getfield 140, 3) := by decide +kernel
theorem dX7_reaches_20 : decode cX7_reaches 20 = .ok (.iload_n 2, 1) := by decide +kernel
theorem dX7_reaches_21 : decode cX7_reaches 21 = .ok (.iaload, 1) := by decide +kernel
theorem dX7_reaches_22 : decode cX7_reaches 22 = .ok (.iload_n 3, 1) := by decide +kernel
theorem dX7_reaches_23 : decode cX7_reaches 23 = .ok (.invokevirtual 24, 3) := by decide +kernel
theorem dX7_reaches_26 : decode cX7_reaches 26 = .ok (.aload_n 1, 1) := by decide +kernel
theorem dX7_reaches_27 : decode cX7_reaches 27 = .ok (.getfield 143, 3) := by decide +kernel
theorem dX7_reaches_30 : decode cX7_reaches 30 = .ok (.iload_n 2, 1) := by decide +kernel
theorem dX7_reaches_31 : decode cX7_reaches 31 = .ok (.iaload, 1) := by decide +kernel
theorem dX7_reaches_32 : decode cX7_reaches 32 = .ok (.if_icmp .ne 7, 3) := by decide +kernel
theorem dX7_reaches_35 : decode cX7_reaches 35 = .ok (.iconst 1, 1) := by decide +kernel
theorem dX7_reaches_36 : decode cX7_reaches 36 = .ok (.goto 4, 3) := by decide +kernel
theorem dX7_reaches_39 : decode cX7_reaches 39 = .ok (.iconst 0, 1) := by decide +kernel
theorem dX7_reaches_40 : decode cX7_reaches 40 = .ok (.ireturn, 1) := by decide +kernel
theorem dX7_reachedBits_0 : decode cX7_reachedBits 0 = .ok (.iconst 0, 1) := by decide +kernel
theorem dX7_reachedBits_1 : decode cX7_reachedBits 1 = .ok (.istore_n 2, 1) := by decide +kernel
theorem dX7_reachedBits_2 : decode cX7_reachedBits 2 = .ok (.iconst 0, 1) := by decide +kernel
theorem dX7_reachedBits_3 : decode cX7_reachedBits 3 = .ok (.istore_n 3, 1) := by decide +kernel
theorem dX7_reachedBits_4 : decode cX7_reachedBits 4 = .ok (.iload_n 3, 1) := by decide +kernel
theorem dX7_reachedBits_5 : decode cX7_reachedBits 5 = .ok (.aload_n 1, 1) := by decide +kernel
theorem dX7_reachedBits_6 : decode cX7_reachedBits 6 = .ok (.getfield 146, 3) := by decide +kernel
theorem dX7_reachedBits_9 : decode cX7_reachedBits 9 = .ok (.if_icmp .ge 24, 3) := by decide +kernel
theorem dX7_reachedBits_12 : decode cX7_reachedBits 12 = .ok (.aload_n 0, 1) := by decide +kernel
theorem dX7_reachedBits_13 : decode cX7_reachedBits 13 = .ok (.aload_n 1, 1) := by decide +kernel
theorem dX7_reachedBits_14 : decode cX7_reachedBits 14 = .ok (.iload_n 3, 1) := by decide +kernel
theorem dX7_reachedBits_15 : decode cX7_reachedBits 15 = .ok (.invokevirtual 149, 3) := by decide +kernel
theorem dX7_reachedBits_18 : decode cX7_reachedBits 18 = .ok (.ifCond .eq 9, 3) := by decide +kernel
theorem dX7_reachedBits_21 : decode cX7_reachedBits 21 = .ok (.iload_n 2, 1) := by decide +kernel
theorem dX7_reachedBits_22 : decode cX7_reachedBits 22 = .ok (.iconst 1, 1) := by decide +kernel
theorem dX7_reachedBits_23 : decode cX7_reachedBits 23 = .ok (.iload_n 3, 1) := by decide +kernel
theorem dX7_reachedBits_24 : decode cX7_reachedBits 24 = .ok (.ishl, 1) := by decide +kernel
theorem dX7_reachedBits_25 : decode cX7_reachedBits 25 = .ok (.ior, 1) := by decide +kernel
theorem dX7_reachedBits_26 : decode cX7_reachedBits 26 = .ok (.istore_n 2, 1) := by decide +kernel
theorem dX7_reachedBits_27 : decode cX7_reachedBits 27 = .ok (.iinc 3 1, 3) := by decide +kernel
theorem dX7_reachedBits_30 : decode cX7_reachedBits 30 = .ok (.goto (-26), 3) := by decide +kernel
theorem dX7_reachedBits_33 : decode cX7_reachedBits 33 = .ok (.iload_n 2, 1) := by decide +kernel
theorem dX7_reachedBits_34 : decode cX7_reachedBits 34 = .ok (.ireturn, 1) := by decide +kernel
theorem dJ6_compare_7cf53_0 : decode cJ6_compare_7cf53 0 = .ok (.iload_n 0, 1) := by decide +kernel
theorem dJ6_compare_7cf53_1 : decode cJ6_compare_7cf53 1 = .ok (.iload_n 1, 1) := by decide +kernel
theorem dJ6_compare_7cf53_2 : decode cJ6_compare_7cf53 2 = .ok (.if_icmp .ge 7, 3) := by decide +kernel
theorem dJ6_compare_7cf53_5 : decode cJ6_compare_7cf53 5 = .ok (.iconst (-1), 1) := by decide +kernel
theorem dJ6_compare_7cf53_6 : decode cJ6_compare_7cf53 6 = .ok (.goto 13, 3) := by decide +kernel
theorem dJ6_compare_7cf53_9 : decode cJ6_compare_7cf53 9 = .ok (.iload_n 0, 1) := by decide +kernel
theorem dJ6_compare_7cf53_10 : decode cJ6_compare_7cf53 10 = .ok (.iload_n 1, 1) := by decide +kernel
theorem dJ6_compare_7cf53_11 : decode cJ6_compare_7cf53 11 = .ok (.if_icmp .ne 7, 3) := by decide +kernel
theorem dJ6_compare_7cf53_14 : decode cJ6_compare_7cf53 14 = .ok (.iconst 0, 1) := by decide +kernel
theorem dJ6_compare_7cf53_15 : decode cJ6_compare_7cf53 15 = .ok (.goto 4, 3) := by decide +kernel
theorem dJ6_compare_7cf53_18 : decode cJ6_compare_7cf53 18 = .ok (.iconst 1, 1) := by decide +kernel
theorem dJ6_compare_7cf53_19 : decode cJ6_compare_7cf53 19 = .ok (.ireturn, 1) := by decide +kernel
theorem dJ6_bitCount_0f7a4_0 : decode cJ6_bitCount_0f7a4 0 = .ok (.iload_n 0, 1) := by decide +kernel
theorem dJ6_bitCount_0f7a4_1 : decode cJ6_bitCount_0f7a4 1 = .ok (.iload_n 0, 1) := by decide +kernel
theorem dJ6_bitCount_0f7a4_2 : decode cJ6_bitCount_0f7a4 2 = .ok (.iconst 1, 1) := by decide +kernel
theorem dJ6_bitCount_0f7a4_3 : decode cJ6_bitCount_0f7a4 3 = .ok (.iushr, 1) := by decide +kernel
theorem dJ6_bitCount_0f7a4_4 : decode cJ6_bitCount_0f7a4 4 = .ok (.ldc_w 265, 3) := by decide +kernel
theorem dJ6_bitCount_0f7a4_7 : decode cJ6_bitCount_0f7a4 7 = .ok (.iand, 1) := by decide +kernel
theorem dJ6_bitCount_0f7a4_8 : decode cJ6_bitCount_0f7a4 8 = .ok (.isub, 1) := by decide +kernel
theorem dJ6_bitCount_0f7a4_9 : decode cJ6_bitCount_0f7a4 9 = .ok (.istore_n 0, 1) := by decide +kernel
theorem dJ6_bitCount_0f7a4_10 : decode cJ6_bitCount_0f7a4 10 = .ok (.iload_n 0, 1) := by decide +kernel
theorem dJ6_bitCount_0f7a4_11 : decode cJ6_bitCount_0f7a4 11 = .ok (.ldc_w 266, 3) := by decide +kernel
theorem dJ6_bitCount_0f7a4_14 : decode cJ6_bitCount_0f7a4 14 = .ok (.iand, 1) := by decide +kernel
theorem dJ6_bitCount_0f7a4_15 : decode cJ6_bitCount_0f7a4 15 = .ok (.iload_n 0, 1) := by decide +kernel
theorem dJ6_bitCount_0f7a4_16 : decode cJ6_bitCount_0f7a4 16 = .ok (.iconst 2, 1) := by decide +kernel
theorem dJ6_bitCount_0f7a4_17 : decode cJ6_bitCount_0f7a4 17 = .ok (.iushr, 1) := by decide +kernel
theorem dJ6_bitCount_0f7a4_18 : decode cJ6_bitCount_0f7a4 18 = .ok (.ldc_w 266, 3) := by decide +kernel
theorem dJ6_bitCount_0f7a4_21 : decode cJ6_bitCount_0f7a4 21 = .ok (.iand, 1) := by decide +kernel
theorem dJ6_bitCount_0f7a4_22 : decode cJ6_bitCount_0f7a4 22 = .ok (.iadd, 1) := by decide +kernel
theorem dJ6_bitCount_0f7a4_23 : decode cJ6_bitCount_0f7a4 23 = .ok (.istore_n 0, 1) := by decide +kernel
theorem dJ6_bitCount_0f7a4_24 : decode cJ6_bitCount_0f7a4 24 = .ok (.iload_n 0, 1) := by decide +kernel
theorem dJ6_bitCount_0f7a4_25 : decode cJ6_bitCount_0f7a4 25 = .ok (.iload_n 0, 1) := by decide +kernel
theorem dJ6_bitCount_0f7a4_26 : decode cJ6_bitCount_0f7a4 26 = .ok (.iconst 4, 1) := by decide +kernel
theorem dJ6_bitCount_0f7a4_27 : decode cJ6_bitCount_0f7a4 27 = .ok (.iushr, 1) := by decide +kernel
theorem dJ6_bitCount_0f7a4_28 : decode cJ6_bitCount_0f7a4 28 = .ok (.iadd, 1) := by decide +kernel
theorem dJ6_bitCount_0f7a4_29 : decode cJ6_bitCount_0f7a4 29 = .ok (.ldc_w 267, 3) := by decide +kernel
theorem dJ6_bitCount_0f7a4_32 : decode cJ6_bitCount_0f7a4 32 = .ok (.iand, 1) := by decide +kernel
theorem dJ6_bitCount_0f7a4_33 : decode cJ6_bitCount_0f7a4 33 = .ok (.istore_n 0, 1) := by decide +kernel
theorem dJ6_bitCount_0f7a4_34 : decode cJ6_bitCount_0f7a4 34 = .ok (.iload_n 0, 1) := by decide +kernel
theorem dJ6_bitCount_0f7a4_35 : decode cJ6_bitCount_0f7a4 35 = .ok (.iload_n 0, 1) := by decide +kernel
theorem dJ6_bitCount_0f7a4_36 : decode cJ6_bitCount_0f7a4 36 = .ok (.bipush 8, 2) := by decide +kernel
theorem dJ6_bitCount_0f7a4_38 : decode cJ6_bitCount_0f7a4 38 = .ok (.iushr, 1) := by decide +kernel
theorem dJ6_bitCount_0f7a4_39 : decode cJ6_bitCount_0f7a4 39 = .ok (.iadd, 1) := by decide +kernel
theorem dJ6_bitCount_0f7a4_40 : decode cJ6_bitCount_0f7a4 40 = .ok (.istore_n 0, 1) := by decide +kernel
theorem dJ6_bitCount_0f7a4_41 : decode cJ6_bitCount_0f7a4 41 = .ok (.iload_n 0, 1) := by decide +kernel
theorem dJ6_bitCount_0f7a4_42 : decode cJ6_bitCount_0f7a4 42 = .ok (.iload_n 0, 1) := by decide +kernel
theorem dJ6_bitCount_0f7a4_43 : decode cJ6_bitCount_0f7a4 43 = .ok (.bipush 16, 2) := by decide +kernel
theorem dJ6_bitCount_0f7a4_45 : decode cJ6_bitCount_0f7a4 45 = .ok (.iushr, 1) := by decide +kernel
theorem dJ6_bitCount_0f7a4_46 : decode cJ6_bitCount_0f7a4 46 = .ok (.iadd, 1) := by decide +kernel
theorem dJ6_bitCount_0f7a4_47 : decode cJ6_bitCount_0f7a4 47 = .ok (.istore_n 0, 1) := by decide +kernel
theorem dJ6_bitCount_0f7a4_48 : decode cJ6_bitCount_0f7a4 48 = .ok (.iload_n 0, 1) := by decide +kernel
theorem dJ6_bitCount_0f7a4_49 : decode cJ6_bitCount_0f7a4 49 = .ok (.bipush 63, 2) := by decide +kernel
theorem dJ6_bitCount_0f7a4_51 : decode cJ6_bitCount_0f7a4 51 = .ok (.iand, 1) := by decide +kernel
theorem dJ6_bitCount_0f7a4_52 : decode cJ6_bitCount_0f7a4 52 = .ok (.ireturn, 1) := by decide +kernel
theorem dJ9_floorMod_7cf53_0 : decode cJ9_floorMod_7cf53 0 = .ok (.iload_n 0, 1) := by decide +kernel
theorem dJ9_floorMod_7cf53_1 : decode cJ9_floorMod_7cf53 1 = .ok (.iload_n 1, 1) := by decide +kernel
theorem dJ9_floorMod_7cf53_2 : decode cJ9_floorMod_7cf53 2 = .ok (.irem, 1) := by decide +kernel
theorem dJ9_floorMod_7cf53_3 : decode cJ9_floorMod_7cf53 3 = .ok (.istore_n 2, 1) := by decide +kernel
theorem dJ9_floorMod_7cf53_4 : decode cJ9_floorMod_7cf53 4 = .ok (.iload_n 0, 1) := by decide +kernel
theorem dJ9_floorMod_7cf53_5 : decode cJ9_floorMod_7cf53 5 = .ok (.iload_n 1, 1) := by decide +kernel
theorem dJ9_floorMod_7cf53_6 : decode cJ9_floorMod_7cf53 6 = .ok (.ixor, 1) := by decide +kernel
theorem dJ9_floorMod_7cf53_7 : decode cJ9_floorMod_7cf53 7 = .ok (.ifCond .ge 11, 3) := by decide +kernel
theorem dJ9_floorMod_7cf53_10 : decode cJ9_floorMod_7cf53 10 = .ok (.iload_n 2, 1) := by decide +kernel
theorem dJ9_floorMod_7cf53_11 : decode cJ9_floorMod_7cf53 11 = .ok (.ifCond .eq 7, 3) := by decide +kernel
theorem dJ9_floorMod_7cf53_14 : decode cJ9_floorMod_7cf53 14 = .ok (.iload_n 2, 1) := by decide +kernel
theorem dJ9_floorMod_7cf53_15 : decode cJ9_floorMod_7cf53 15 = .ok (.iload_n 1, 1) := by decide +kernel
theorem dJ9_floorMod_7cf53_16 : decode cJ9_floorMod_7cf53 16 = .ok (.iadd, 1) := by decide +kernel
theorem dJ9_floorMod_7cf53_17 : decode cJ9_floorMod_7cf53 17 = .ok (.ireturn, 1) := by decide +kernel
theorem dJ9_floorMod_7cf53_18 : decode cJ9_floorMod_7cf53 18 = .ok (.iload_n 2, 1) := by decide +kernel
theorem dJ9_floorMod_7cf53_19 : decode cJ9_floorMod_7cf53 19 = .ok (.ireturn, 1) := by decide +kernel
theorem dJ9_abs_0f7a4_0 : decode cJ9_abs_0f7a4 0 = .ok (.iload_n 0, 1) := by decide +kernel
theorem dJ9_abs_0f7a4_1 : decode cJ9_abs_0f7a4 1 = .ok (.ifCond .ge 8, 3) := by decide +kernel
theorem dJ9_abs_0f7a4_4 : decode cJ9_abs_0f7a4 4 = .ok (.iload_n 0, 1) := by decide +kernel
theorem dJ9_abs_0f7a4_5 : decode cJ9_abs_0f7a4 5 = .ok (.ineg, 1) := by decide +kernel
theorem dJ9_abs_0f7a4_6 : decode cJ9_abs_0f7a4 6 = .ok (.goto 4, 3) := by decide +kernel
theorem dJ9_abs_0f7a4_9 : decode cJ9_abs_0f7a4 9 = .ok (.iload_n 0, 1) := by decide +kernel
theorem dJ9_abs_0f7a4_10 : decode cJ9_abs_0f7a4 10 = .ok (.ireturn, 1) := by decide +kernel
theorem dJ9_abs_067f4_0 : decode cJ9_abs_067f4 0 = .ok (.lload_n 0, 1) := by decide +kernel
theorem dJ9_abs_067f4_1 : decode cJ9_abs_067f4 1 = .ok (.lconst 0, 1) := by decide +kernel
theorem dJ9_abs_067f4_2 : decode cJ9_abs_067f4 2 = .ok (.lcmp, 1) := by decide +kernel
theorem dJ9_abs_067f4_3 : decode cJ9_abs_067f4 3 = .ok (.ifCond .ge 8, 3) := by decide +kernel
theorem dJ9_abs_067f4_6 : decode cJ9_abs_067f4 6 = .ok (.lload_n 0, 1) := by decide +kernel
theorem dJ9_abs_067f4_7 : decode cJ9_abs_067f4 7 = .ok (.lneg, 1) := by decide +kernel
theorem dJ9_abs_067f4_8 : decode cJ9_abs_067f4 8 = .ok (.goto 4, 3) := by decide +kernel
theorem dJ9_abs_067f4_11 : decode cJ9_abs_067f4 11 = .ok (.lload_n 0, 1) := by decide +kernel
theorem dJ9_abs_067f4_12 : decode cJ9_abs_067f4 12 = .ok (.lreturn, 1) := by decide +kernel
theorem dJ9_max_7cf53_0 : decode cJ9_max_7cf53 0 = .ok (.iload_n 0, 1) := by decide +kernel
theorem dJ9_max_7cf53_1 : decode cJ9_max_7cf53 1 = .ok (.iload_n 1, 1) := by decide +kernel
theorem dJ9_max_7cf53_2 : decode cJ9_max_7cf53 2 = .ok (.if_icmp .lt 7, 3) := by decide +kernel
theorem dJ9_max_7cf53_5 : decode cJ9_max_7cf53 5 = .ok (.iload_n 0, 1) := by decide +kernel
theorem dJ9_max_7cf53_6 : decode cJ9_max_7cf53 6 = .ok (.goto 4, 3) := by decide +kernel
theorem dJ9_max_7cf53_9 : decode cJ9_max_7cf53 9 = .ok (.iload_n 1, 1) := by decide +kernel
theorem dJ9_max_7cf53_10 : decode cJ9_max_7cf53 10 = .ok (.ireturn, 1) := by decide +kernel
theorem dJ9_min_7cf53_0 : decode cJ9_min_7cf53 0 = .ok (.iload_n 0, 1) := by decide +kernel
theorem dJ9_min_7cf53_1 : decode cJ9_min_7cf53 1 = .ok (.iload_n 1, 1) := by decide +kernel
theorem dJ9_min_7cf53_2 : decode cJ9_min_7cf53 2 = .ok (.if_icmp .gt 7, 3) := by decide +kernel
theorem dJ9_min_7cf53_5 : decode cJ9_min_7cf53 5 = .ok (.iload_n 0, 1) := by decide +kernel
theorem dJ9_min_7cf53_6 : decode cJ9_min_7cf53 6 = .ok (.goto 4, 3) := by decide +kernel
theorem dJ9_min_7cf53_9 : decode cJ9_min_7cf53 9 = .ok (.iload_n 1, 1) := by decide +kernel
theorem dJ9_min_7cf53_10 : decode cJ9_min_7cf53 10 = .ok (.ireturn, 1) := by decide +kernel
theorem dJ0_length_8abf5_0 : decode cJ0_length_8abf5 0 = .ok (.aload_n 0, 1) := by decide +kernel
theorem dJ0_length_8abf5_1 : decode cJ0_length_8abf5 1 = .ok (.getfield 9, 3) := by decide +kernel
theorem dJ0_length_8abf5_4 : decode cJ0_length_8abf5 4 = .ok (.arraylength, 1) := by decide +kernel
theorem dJ0_length_8abf5_5 : decode cJ0_length_8abf5 5 = .ok (.aload_n 0, 1) := by decide +kernel
theorem dJ0_length_8abf5_6 : decode cJ0_length_8abf5 6 = .ok (.invokevirtual 335, 3) := by decide +kernel
theorem dJ0_length_8abf5_9 : decode cJ0_length_8abf5 9 = .ok (.ishr, 1) := by decide +kernel
theorem dJ0_length_8abf5_10 : decode cJ0_length_8abf5 10 = .ok (.ireturn, 1) := by decide +kernel
theorem dJ0_charAt_5068e_0 : decode cJ0_charAt_5068e 0 = .ok (.aload_n 0, 1) := by decide +kernel
theorem dJ0_charAt_5068e_1 : decode cJ0_charAt_5068e 1 = .ok (.invokevirtual 492, 3) := by decide +kernel
theorem dJ0_charAt_5068e_4 : decode cJ0_charAt_5068e 4 = .ok (.ifCond .eq 12, 3) := by decide +kernel
theorem dJ0_charAt_5068e_7 : decode cJ0_charAt_5068e 7 = .ok (.aload_n 0, 1) := by decide +kernel
theorem dJ0_charAt_5068e_8 : decode cJ0_charAt_5068e 8 = .ok (.getfield 9, 3) := by decide +kernel
theorem dJ0_charAt_5068e_11 : decode cJ0_charAt_5068e 11 = .ok (.iload_n 1, 1) := by decide +kernel
theorem dJ0_charAt_5068e_12 : decode cJ0_charAt_5068e 12 = .ok (.invokestatic 495, 3) := by decide +kernel
theorem dJ0_charAt_5068e_15 : decode cJ0_charAt_5068e 15 = .ok (.ireturn, 1) := by decide +kernel
theorem dJ0_charAt_5068e_16 : decode cJ0_charAt_5068e 16 = .ok (.aload_n 0, 1) := by decide +kernel
theorem dJ0_charAt_5068e_17 : decode cJ0_charAt_5068e 17 = .ok (.getfield 9, 3) := by decide +kernel
theorem dJ0_charAt_5068e_20 : decode cJ0_charAt_5068e 20 = .ok (.iload_n 1, 1) := by decide +kernel
theorem dJ0_charAt_5068e_21 : decode cJ0_charAt_5068e 21 = .ok (.invokestatic 498, 3) := by decide +kernel
theorem dJ0_charAt_5068e_24 : decode cJ0_charAt_5068e 24 = .ok (.ireturn, 1) := by decide +kernel
theorem dJ0_coder_7d493_0 : decode cJ0_coder_7d493 0 = .ok (.getstatic 38, 3) := by decide +kernel
theorem dJ0_coder_7d493_3 : decode cJ0_coder_7d493 3 = .ok (.ifCond .eq 10, 3) := by decide +kernel
theorem dJ0_coder_7d493_6 : decode cJ0_coder_7d493 6 = .ok (.aload_n 0, 1) := by decide +kernel
theorem dJ0_coder_7d493_7 : decode cJ0_coder_7d493 7 = .ok (.getfield 15, 3) := by decide +kernel
theorem dJ0_coder_7d493_10 : decode cJ0_coder_7d493 10 = .ok (.goto 4, 3) := by decide +kernel
theorem dJ0_coder_7d493_13 : decode cJ0_coder_7d493 13 = .ok (.iconst 1, 1) := by decide +kernel
theorem dJ0_coder_7d493_14 : decode cJ0_coder_7d493 14 = .ok (.ireturn, 1) := by decide +kernel
theorem dJ0_isLatin1_aae02_0 : decode cJ0_isLatin1_aae02 0 = .ok (.getstatic 38, 3) := by decide +kernel
theorem dJ0_isLatin1_aae02_3 : decode cJ0_isLatin1_aae02 3 = .ok (.ifCond .eq 14, 3) := by decide +kernel
theorem dJ0_isLatin1_aae02_6 : decode cJ0_isLatin1_aae02 6 = .ok (.aload_n 0, 1) := by decide +kernel
theorem dJ0_isLatin1_aae02_7 : decode cJ0_isLatin1_aae02 7 = .ok (.getfield 15, 3) := by decide +kernel
theorem dJ0_isLatin1_aae02_10 : decode cJ0_isLatin1_aae02 10 = .ok (.ifCond .ne 7, 3) := by decide +kernel
theorem dJ0_isLatin1_aae02_13 : decode cJ0_isLatin1_aae02 13 = .ok (.iconst 1, 1) := by decide +kernel
theorem dJ0_isLatin1_aae02_14 : decode cJ0_isLatin1_aae02 14 = .ok (.goto 4, 3) := by decide +kernel
theorem dJ0_isLatin1_aae02_17 : decode cJ0_isLatin1_aae02 17 = .ok (.iconst 0, 1) := by decide +kernel
theorem dJ0_isLatin1_aae02_18 : decode cJ0_isLatin1_aae02 18 = .ok (.ireturn, 1) := by decide +kernel
theorem dJ0_checkIndex_df160_0 : decode cJ0_checkIndex_df160 0 = .ok (.iload_n 0, 1) := by decide +kernel
theorem dJ0_checkIndex_df160_1 : decode cJ0_checkIndex_df160 1 = .ok (.iload_n 1, 1) := by decide +kernel
theorem dJ0_checkIndex_df160_2 : decode cJ0_checkIndex_df160 2 = .ok (.getstatic 1053, 3) := by decide +kernel
theorem dJ0_checkIndex_df160_5 : decode cJ0_checkIndex_df160 5 = .ok (.invokestatic 1059, 3) := by decide +kernel
theorem dJ0_checkIndex_df160_8 : decode cJ0_checkIndex_df160 8 = .ok (.pop, 1) := by decide +kernel
theorem dJ0_checkIndex_df160_9 : decode cJ0_checkIndex_df160 9 = .ok (.return_, 1) := by decide +kernel
theorem dJ1_charAt_3b067_0 : decode cJ1_charAt_3b067 0 = .ok (.iload_n 1, 1) := by decide +kernel
theorem dJ1_charAt_3b067_1 : decode cJ1_charAt_3b067 1 = .ok (.aload_n 0, 1) := by decide +kernel
theorem dJ1_charAt_3b067_2 : decode cJ1_charAt_3b067 2 = .ok (.arraylength, 1) := by decide +kernel
theorem dJ1_charAt_3b067_3 : decode cJ1_charAt_3b067 3 = .ok (.invokestatic 9, 3) := by decide +kernel
theorem dJ1_charAt_3b067_6 : decode cJ1_charAt_3b067 6 = .ok (.aload_n 0, 1) := by decide +kernel
theorem dJ1_charAt_3b067_7 : decode cJ1_charAt_3b067 7 = .ok (.iload_n 1, 1) := by decide +kernel
theorem dJ1_charAt_3b067_8 : decode cJ1_charAt_3b067 8 = .ok (.baload, 1) := by decide +kernel
theorem dJ1_charAt_3b067_9 : decode cJ1_charAt_3b067 9 = .ok (.sipush 255, 3) := by decide +kernel
theorem dJ1_charAt_3b067_12 : decode cJ1_charAt_3b067 12 = .ok (.iand, 1) := by decide +kernel
theorem dJ1_charAt_3b067_13 : decode cJ1_charAt_3b067 13 = .ok (.i2c, 1) := by decide +kernel
theorem dJ1_charAt_3b067_14 : decode cJ1_charAt_3b067 14 = .ok (.ireturn, 1) := by decide +kernel
theorem dJ2_getChar_3b067_0 : decode cJ2_getChar_3b067 0 = .ok (.getstatic 44, 3) := by decide +kernel
theorem dJ2_getChar_3b067_3 : decode cJ2_getChar_3b067 3 = .ok (.ifCond .ne 25, 3) := by decide +kernel
theorem dJ2_getChar_3b067_6 : decode cJ2_getChar_3b067 6 = .ok (.iload_n 1, 1) := by decide +kernel
theorem dJ2_getChar_3b067_7 : decode cJ2_getChar_3b067 7 = .ok (.ifCond .lt 11, 3) := by decide +kernel
theorem dJ2_getChar_3b067_10 : decode cJ2_getChar_3b067 10 = .ok (.iload_n 1, 1) := by decide +kernel
theorem dJ2_getChar_3b067_11 : decode cJ2_getChar_3b067 11 = .ok (.aload_n 0, 1) := by decide +kernel
theorem dJ2_getChar_3b067_12 : decode cJ2_getChar_3b067 12 = .ok (.invokestatic 48, 3) := by decide +kernel
theorem dJ2_getChar_3b067_15 : decode cJ2_getChar_3b067 15 = .ok (.if_icmp .lt 13, 3) := by decide +kernel
theorem dJ2_getChar_3b067_18 : decode cJ2_getChar_3b067 18 = .ok (.new 52, 3) := by decide +kernel
theorem dJ2_getChar_3b067_21 : decode cJ2_getChar_3b067 21 = .ok (.dup, 1) := by decide +kernel
theorem dJ2_getChar_3b067_22 : decode cJ2_getChar_3b067 22 = .ok (.ldc 54, 2) := by decide +kernel
theorem dJ2_getChar_3b067_24 : decode cJ2_getChar_3b067 24 = .ok (.invokespecial 56, 3) := by decide +kernel
theorem dJ2_getChar_3b067_27 : decode cJ2_getChar_3b067 27 = .ok (.athrow, 1) := by decide +kernel
theorem dJ2_getChar_3b067_28 : decode cJ2_getChar_3b067 28 = .ok (.iload_n 1, 1) := by decide +kernel
theorem dJ2_getChar_3b067_29 : decode cJ2_getChar_3b067 29 = .ok (.iconst 1, 1) := by decide +kernel
theorem dJ2_getChar_3b067_30 : decode cJ2_getChar_3b067 30 = .ok (.ishl, 1) := by decide +kernel
theorem dJ2_getChar_3b067_31 : decode cJ2_getChar_3b067 31 = .ok (.istore_n 1, 1) := by decide +kernel
theorem dJ2_getChar_3b067_32 : decode cJ2_getChar_3b067 32 = .ok (.aload_n 0, 1) := by decide +kernel
theorem dJ2_getChar_3b067_33 : decode cJ2_getChar_3b067 33 = .ok (.iload_n 1, 1) := by decide +kernel
theorem dJ2_getChar_3b067_34 : decode cJ2_getChar_3b067 34 = .ok (.iinc 1 1, 3) := by decide +kernel
theorem dJ2_getChar_3b067_37 : decode cJ2_getChar_3b067 37 = .ok (.baload, 1) := by decide +kernel
theorem dJ2_getChar_3b067_38 : decode cJ2_getChar_3b067 38 = .ok (.sipush 255, 3) := by decide +kernel
theorem dJ2_getChar_3b067_41 : decode cJ2_getChar_3b067 41 = .ok (.iand, 1) := by decide +kernel
theorem dJ2_getChar_3b067_42 : decode cJ2_getChar_3b067 42 = .ok (.getstatic 59, 3) := by decide +kernel
theorem dJ2_getChar_3b067_45 : decode cJ2_getChar_3b067 45 = .ok (.ishl, 1) := by decide +kernel
theorem dJ2_getChar_3b067_46 : decode cJ2_getChar_3b067 46 = .ok (.aload_n 0, 1) := by decide +kernel
theorem dJ2_getChar_3b067_47 : decode cJ2_getChar_3b067 47 = .ok (.iload_n 1, 1) := by decide +kernel
theorem dJ2_getChar_3b067_48 : decode cJ2_getChar_3b067 48 = .ok (.baload, 1) := by decide +kernel
theorem dJ2_getChar_3b067_49 : decode cJ2_getChar_3b067 49 = .ok (.sipush 255, 3) := by decide +kernel
theorem dJ2_getChar_3b067_52 : decode cJ2_getChar_3b067 52 = .ok (.iand, 1) := by decide +kernel
theorem dJ2_getChar_3b067_53 : decode cJ2_getChar_3b067 53 = .ok (.getstatic 63, 3) := by decide +kernel
theorem dJ2_getChar_3b067_56 : decode cJ2_getChar_3b067 56 = .ok (.ishl, 1) := by decide +kernel
theorem dJ2_getChar_3b067_57 : decode cJ2_getChar_3b067 57 = .ok (.ior, 1) := by decide +kernel
theorem dJ2_getChar_3b067_58 : decode cJ2_getChar_3b067 58 = .ok (.i2c, 1) := by decide +kernel
theorem dJ2_getChar_3b067_59 : decode cJ2_getChar_3b067 59 = .ok (.ireturn, 1) := by decide +kernel
theorem dJ2_length_9d52b_0 : decode cJ2_length_9d52b 0 = .ok (.aload_n 0, 1) := by decide +kernel
theorem dJ2_length_9d52b_1 : decode cJ2_length_9d52b 1 = .ok (.arraylength, 1) := by decide +kernel
theorem dJ2_length_9d52b_2 : decode cJ2_length_9d52b 2 = .ok (.iconst 1, 1) := by decide +kernel
theorem dJ2_length_9d52b_3 : decode cJ2_length_9d52b 3 = .ok (.ishr, 1) := by decide +kernel
theorem dJ2_length_9d52b_4 : decode cJ2_length_9d52b 4 = .ok (.ireturn, 1) := by decide +kernel
theorem dJ2_charAt_3b067_0 : decode cJ2_charAt_3b067 0 = .ok (.iload_n 1, 1) := by decide +kernel
theorem dJ2_charAt_3b067_1 : decode cJ2_charAt_3b067 1 = .ok (.aload_n 0, 1) := by decide +kernel
theorem dJ2_charAt_3b067_2 : decode cJ2_charAt_3b067 2 = .ok (.invokestatic 67, 3) := by decide +kernel
theorem dJ2_charAt_3b067_5 : decode cJ2_charAt_3b067 5 = .ok (.aload_n 0, 1) := by decide +kernel
theorem dJ2_charAt_3b067_6 : decode cJ2_charAt_3b067 6 = .ok (.iload_n 1, 1) := by decide +kernel
theorem dJ2_charAt_3b067_7 : decode cJ2_charAt_3b067 7 = .ok (.invokestatic 71, 3) := by decide +kernel
theorem dJ2_charAt_3b067_10 : decode cJ2_charAt_3b067 10 = .ok (.ireturn, 1) := by decide +kernel
theorem dJ2_checkIndex_2214a_0 : decode cJ2_checkIndex_2214a 0 = .ok (.iload_n 0, 1) := by decide +kernel
theorem dJ2_checkIndex_2214a_1 : decode cJ2_checkIndex_2214a 1 = .ok (.aload_n 1, 1) := by decide +kernel
theorem dJ2_checkIndex_2214a_2 : decode cJ2_checkIndex_2214a 2 = .ok (.invokestatic 48, 3) := by decide +kernel
theorem dJ2_checkIndex_2214a_5 : decode cJ2_checkIndex_2214a 5 = .ok (.invokestatic 414, 3) := by decide +kernel
theorem dJ2_checkIndex_2214a_8 : decode cJ2_checkIndex_2214a 8 = .ok (.return_, 1) := by decide +kernel
theorem dJ7_fill_d0a16_0 : decode cJ7_fill_d0a16 0 = .ok (.iconst 0, 1) := by decide +kernel
theorem dJ7_fill_d0a16_1 : decode cJ7_fill_d0a16 1 = .ok (.istore_n 3, 1) := by decide +kernel
theorem dJ7_fill_d0a16_2 : decode cJ7_fill_d0a16 2 = .ok (.aload_n 0, 1) := by decide +kernel
theorem dJ7_fill_d0a16_3 : decode cJ7_fill_d0a16 3 = .ok (.arraylength, 1) := by decide +kernel
theorem dJ7_fill_d0a16_4 : decode cJ7_fill_d0a16 4 = .ok (.istore 4, 2) := by decide +kernel
theorem dJ7_fill_d0a16_6 : decode cJ7_fill_d0a16 6 = .ok (.iload_n 3, 1) := by decide +kernel
theorem dJ7_fill_d0a16_7 : decode cJ7_fill_d0a16 7 = .ok (.iload 4, 2) := by decide +kernel
theorem dJ7_fill_d0a16_9 : decode cJ7_fill_d0a16 9 = .ok (.if_icmp .ge 13, 3) := by decide +kernel
theorem dJ7_fill_d0a16_12 : decode cJ7_fill_d0a16 12 = .ok (.aload_n 0, 1) := by decide +kernel
theorem dJ7_fill_d0a16_13 : decode cJ7_fill_d0a16 13 = .ok (.iload_n 3, 1) := by decide +kernel
theorem dJ7_fill_d0a16_14 : decode cJ7_fill_d0a16 14 = .ok (.lload_n 1, 1) := by decide +kernel
theorem dJ7_fill_d0a16_15 : decode cJ7_fill_d0a16 15 = .ok (.lastore, 1) := by decide +kernel
theorem dJ7_fill_d0a16_16 : decode cJ7_fill_d0a16 16 = .ok (.iinc 3 1, 3) := by decide +kernel
theorem dJ7_fill_d0a16_19 : decode cJ7_fill_d0a16 19 = .ok (.goto (-13), 3) := by decide +kernel
theorem dJ7_fill_d0a16_22 : decode cJ7_fill_d0a16 22 = .ok (.return_, 1) := by decide +kernel
theorem dJ7_fill_53178_0 : decode cJ7_fill_53178 0 = .ok (.iconst 0, 1) := by decide +kernel
theorem dJ7_fill_53178_1 : decode cJ7_fill_53178 1 = .ok (.istore_n 2, 1) := by decide +kernel
theorem dJ7_fill_53178_2 : decode cJ7_fill_53178 2 = .ok (.aload_n 0, 1) := by decide +kernel
theorem dJ7_fill_53178_3 : decode cJ7_fill_53178 3 = .ok (.arraylength, 1) := by decide +kernel
theorem dJ7_fill_53178_4 : decode cJ7_fill_53178 4 = .ok (.istore_n 3, 1) := by decide +kernel
theorem dJ7_fill_53178_5 : decode cJ7_fill_53178 5 = .ok (.iload_n 2, 1) := by decide +kernel
theorem dJ7_fill_53178_6 : decode cJ7_fill_53178 6 = .ok (.iload_n 3, 1) := by decide +kernel
theorem dJ7_fill_53178_7 : decode cJ7_fill_53178 7 = .ok (.if_icmp .ge 13, 3) := by decide +kernel
theorem dJ7_fill_53178_10 : decode cJ7_fill_53178 10 = .ok (.aload_n 0, 1) := by decide +kernel
theorem dJ7_fill_53178_11 : decode cJ7_fill_53178 11 = .ok (.iload_n 2, 1) := by decide +kernel
theorem dJ7_fill_53178_12 : decode cJ7_fill_53178 12 = .ok (.iload_n 1, 1) := by decide +kernel
theorem dJ7_fill_53178_13 : decode cJ7_fill_53178 13 = .ok (.iastore, 1) := by decide +kernel
theorem dJ7_fill_53178_14 : decode cJ7_fill_53178 14 = .ok (.iinc 2 1, 3) := by decide +kernel
theorem dJ7_fill_53178_17 : decode cJ7_fill_53178 17 = .ok (.goto (-12), 3) := by decide +kernel
theorem dJ7_fill_53178_20 : decode cJ7_fill_53178 20 = .ok (.return_, 1) := by decide +kernel
theorem dJ3_checkIndex_8e157_0 : decode cJ3_checkIndex_8e157 0 = .ok (.iload_n 0, 1) := by decide +kernel
theorem dJ3_checkIndex_8e157_1 : decode cJ3_checkIndex_8e157 1 = .ok (.ifCond .lt 8, 3) := by decide +kernel
theorem dJ3_checkIndex_8e157_4 : decode cJ3_checkIndex_8e157 4 = .ok (.iload_n 0, 1) := by decide +kernel
theorem dJ3_checkIndex_8e157_5 : decode cJ3_checkIndex_8e157 5 = .ok (.iload_n 1, 1) := by decide +kernel
theorem dJ3_checkIndex_8e157_6 : decode cJ3_checkIndex_8e157 6 = .ok (.if_icmp .lt 10, 3) := by decide +kernel
theorem dJ3_checkIndex_8e157_9 : decode cJ3_checkIndex_8e157 9 = .ok (.aload_n 2, 1) := by decide +kernel
theorem dJ3_checkIndex_8e157_10 : decode cJ3_checkIndex_8e157 10 = .ok (.iload_n 0, 1) := by decide +kernel
theorem dJ3_checkIndex_8e157_11 : decode cJ3_checkIndex_8e157 11 = .ok (.iload_n 1, 1) := by decide +kernel
theorem dJ3_checkIndex_8e157_12 : decode cJ3_checkIndex_8e157 12 = .ok (.invokestatic 95, 3) := by decide +kernel
theorem dJ3_checkIndex_8e157_15 : decode cJ3_checkIndex_8e157 15 = .ok (.athrow, 1) := by decide +kernel
theorem dJ3_checkIndex_8e157_16 : decode cJ3_checkIndex_8e157 16 = .ok (.iload_n 0, 1) := by decide +kernel
theorem dJ3_checkIndex_8e157_17 : decode cJ3_checkIndex_8e157 17 = .ok (.ireturn, 1) := by decide +kernel
