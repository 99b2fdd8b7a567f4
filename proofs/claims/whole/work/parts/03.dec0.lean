theorem dX0_isWord_0 : decode cX0_isWord 0 = .ok (.iconst 1, 1) := by decide +kernel
theorem dX0_isWord_1 : decode cX0_isWord 1 = .ok (.istore_n 2, 1) := by decide +kernel
theorem dX0_isWord_2 : decode cX0_isWord 2 = .ok (.iconst 0, 1) := by decide +kernel
theorem dX0_isWord_3 : decode cX0_isWord 3 = .ok (.istore_n 3, 1) := by decide +kernel
theorem dX0_isWord_4 : decode cX0_isWord 4 = .ok (.iload_n 3, 1) := by decide +kernel
theorem dX0_isWord_5 : decode cX0_isWord 5 = .ok (.iload_n 1, 1) := by decide +kernel
theorem dX0_isWord_6 : decode cX0_isWord 6 = .ok (.if_icmp .ge 13, 3) := by decide +kernel
theorem dX0_isWord_9 : decode cX0_isWord 9 = .ok (.iload_n 2, 1) := by decide +kernel
theorem dX0_isWord_10 : decode cX0_isWord 10 = .ok (.iconst 3, 1) := by decide +kernel
theorem dX0_isWord_11 : decode cX0_isWord 11 = .ok (.imul, 1) := by decide +kernel
theorem dX0_isWord_12 : decode cX0_isWord 12 = .ok (.istore_n 2, 1) := by decide +kernel
theorem dX0_isWord_13 : decode cX0_isWord 13 = .ok (.iinc 3 1, 3) := by decide +kernel
theorem dX0_isWord_16 : decode cX0_isWord 16 = .ok (.goto (-12), 3) := by decide +kernel
theorem dX0_isWord_19 : decode cX0_isWord 19 = .ok (.iload_n 0, 1) := by decide +kernel
theorem dX0_isWord_20 : decode cX0_isWord 20 = .ok (.ifCond .lt 12, 3) := by decide +kernel
theorem dX0_isWord_23 : decode cX0_isWord 23 = .ok (.iload_n 0, 1) := by decide +kernel
theorem dX0_isWord_24 : decode cX0_isWord 24 = .ok (.iload_n 2, 1) := by decide +kernel
theorem dX0_isWord_25 : decode cX0_isWord 25 = .ok (.if_icmp .ge 7, 3) := by decide +kernel
theorem dX0_isWord_28 : decode cX0_isWord 28 = .ok (.iconst 1, 1) := by decide +kernel
theorem dX0_isWord_29 : decode cX0_isWord 29 = .ok (.goto 4, 3) := by decide +kernel
theorem dX0_isWord_32 : decode cX0_isWord 32 = .ok (.iconst 0, 1) := by decide +kernel
theorem dX0_isWord_33 : decode cX0_isWord 33 = .ok (.ireturn, 1) := by decide +kernel
theorem dX0_placesOf_0 : decode cX0_placesOf 0 = .ok (.iconst 0, 1) := by decide +kernel
theorem dX0_placesOf_1 : decode cX0_placesOf 1 = .ok (.istore_n 3, 1) := by decide +kernel
theorem dX0_placesOf_2 : decode cX0_placesOf 2 = .ok (.iload_n 0, 1) := by decide +kernel
theorem dX0_placesOf_3 : decode cX0_placesOf 3 = .ok (.istore 4, 2) := by decide +kernel
theorem dX0_placesOf_5 : decode cX0_placesOf 5 = .ok (.iconst 0, 1) := by decide +kernel
theorem dX0_placesOf_6 : decode cX0_placesOf 6 = .ok (.istore 5, 2) := by decide +kernel
theorem dX0_placesOf_8 : decode cX0_placesOf 8 = .ok (.iload 5, 2) := by decide +kernel
theorem dX0_placesOf_10 : decode cX0_placesOf 10 = .ok (.iload_n 2, 1) := by decide +kernel
theorem dX0_placesOf_11 : decode cX0_placesOf 11 = .ok (.if_icmp .ge 30, 3) := by decide +kernel
theorem dX0_placesOf_14 : decode cX0_placesOf 14 = .ok (.iload 4, 2) := by decide +kernel
theorem dX0_placesOf_16 : decode cX0_placesOf 16 = .ok (.iconst 3, 1) := by decide +kernel
theorem dX0_placesOf_17 : decode cX0_placesOf 17 = .ok (.irem, 1) := by decide +kernel
theorem dX0_placesOf_18 : decode cX0_placesOf 18 = .ok (.iload_n 1, 1) := by decide +kernel
theorem dX0_placesOf_19 : decode cX0_placesOf 19 = .ok (.if_icmp .ne 10, 3) := by decide +kernel
theorem dX0_placesOf_22 : decode cX0_placesOf 22 = .ok (.iload_n 3, 1) := by decide +kernel
theorem dX0_placesOf_23 : decode cX0_placesOf 23 = .ok (.iconst 1, 1) := by decide +kernel
theorem dX0_placesOf_24 : decode cX0_placesOf 24 = .ok (.iload 5, 2) := by decide +kernel
theorem dX0_placesOf_26 : decode cX0_placesOf 26 = .ok (.ishl, 1) := by decide +kernel
theorem dX0_placesOf_27 : decode cX0_placesOf 27 = .ok (.ior, 1) := by decide +kernel
theorem dX0_placesOf_28 : decode cX0_placesOf 28 = .ok (.istore_n 3, 1) := by decide +kernel
theorem dX0_placesOf_29 : decode cX0_placesOf 29 = .ok (.iload 4, 2) := by decide +kernel
theorem dX0_placesOf_31 : decode cX0_placesOf 31 = .ok (.iconst 3, 1) := by decide +kernel
theorem dX0_placesOf_32 : decode cX0_placesOf 32 = .ok (.idiv, 1) := by decide +kernel
theorem dX0_placesOf_33 : decode cX0_placesOf 33 = .ok (.istore 4, 2) := by decide +kernel
theorem dX0_placesOf_35 : decode cX0_placesOf 35 = .ok (.iinc 5 1, 3) := by decide +kernel
theorem dX0_placesOf_38 : decode cX0_placesOf 38 = .ok (.goto (-30), 3) := by decide +kernel
theorem dX0_placesOf_41 : decode cX0_placesOf 41 = .ok (.iload_n 3, 1) := by decide +kernel
theorem dX0_placesOf_42 : decode cX0_placesOf 42 = .ok (.ireturn, 1) := by decide +kernel
theorem dX0_wordOf_0 : decode cX0_wordOf 0 = .ok (.iconst 0, 1) := by decide +kernel
theorem dX0_wordOf_1 : decode cX0_wordOf 1 = .ok (.istore_n 3, 1) := by decide +kernel
theorem dX0_wordOf_2 : decode cX0_wordOf 2 = .ok (.iload_n 2, 1) := by decide +kernel
theorem dX0_wordOf_3 : decode cX0_wordOf 3 = .ok (.iconst 1, 1) := by decide +kernel
theorem dX0_wordOf_4 : decode cX0_wordOf 4 = .ok (.isub, 1) := by decide +kernel
theorem dX0_wordOf_5 : decode cX0_wordOf 5 = .ok (.istore 4, 2) := by decide +kernel
theorem dX0_wordOf_7 : decode cX0_wordOf 7 = .ok (.iload 4, 2) := by decide +kernel
theorem dX0_wordOf_9 : decode cX0_wordOf 9 = .ok (.ifCond .lt 21, 3) := by decide +kernel
theorem dX0_wordOf_12 : decode cX0_wordOf 12 = .ok (.iload_n 3, 1) := by decide +kernel
theorem dX0_wordOf_13 : decode cX0_wordOf 13 = .ok (.iconst 3, 1) := by decide +kernel
theorem dX0_wordOf_14 : decode cX0_wordOf 14 = .ok (.imul, 1) := by decide +kernel
theorem dX0_wordOf_15 : decode cX0_wordOf 15 = .ok (.iload_n 0, 1) := by decide +kernel
theorem dX0_wordOf_16 : decode cX0_wordOf 16 = .ok (.iload_n 1, 1) := by decide +kernel
theorem dX0_wordOf_17 : decode cX0_wordOf 17 = .ok (.iload 4, 2) := by decide +kernel
theorem dX0_wordOf_19 : decode cX0_wordOf 19 = .ok (.invokestatic 7, 3) := by decide +kernel
theorem dX0_wordOf_22 : decode cX0_wordOf 22 = .ok (.iadd, 1) := by decide +kernel
theorem dX0_wordOf_23 : decode cX0_wordOf 23 = .ok (.istore_n 3, 1) := by decide +kernel
theorem dX0_wordOf_24 : decode cX0_wordOf 24 = .ok (.iinc 4 (-1), 3) := by decide +kernel
theorem dX0_wordOf_27 : decode cX0_wordOf 27 = .ok (.goto (-20), 3) := by decide +kernel
theorem dX0_wordOf_30 : decode cX0_wordOf 30 = .ok (.iload_n 3, 1) := by decide +kernel
theorem dX0_wordOf_31 : decode cX0_wordOf 31 = .ok (.ireturn, 1) := by decide +kernel
theorem dX0_kindAt_0 : decode cX0_kindAt 0 = .ok (.iload_n 0, 1) := by decide +kernel
theorem dX0_kindAt_1 : decode cX0_kindAt 1 = .ok (.iload_n 2, 1) := by decide +kernel
theorem dX0_kindAt_2 : decode cX0_kindAt 2 = .ok (.ishr, 1) := by decide +kernel
theorem dX0_kindAt_3 : decode cX0_kindAt 3 = .ok (.iconst 1, 1) := by decide +kernel
theorem dX0_kindAt_4 : decode cX0_kindAt 4 = .ok (.iand, 1) := by decide +kernel
theorem dX0_kindAt_5 : decode cX0_kindAt 5 = .ok (.iconst 2, 1) := by decide +kernel
theorem dX0_kindAt_6 : decode cX0_kindAt 6 = .ok (.iload_n 1, 1) := by decide +kernel
theorem dX0_kindAt_7 : decode cX0_kindAt 7 = .ok (.iload_n 2, 1) := by decide +kernel
theorem dX0_kindAt_8 : decode cX0_kindAt 8 = .ok (.ishr, 1) := by decide +kernel
theorem dX0_kindAt_9 : decode cX0_kindAt 9 = .ok (.iconst 1, 1) := by decide +kernel
theorem dX0_kindAt_10 : decode cX0_kindAt 10 = .ok (.iand, 1) := by decide +kernel
theorem dX0_kindAt_11 : decode cX0_kindAt 11 = .ok (.imul, 1) := by decide +kernel
theorem dX0_kindAt_12 : decode cX0_kindAt 12 = .ok (.iadd, 1) := by decide +kernel
theorem dX0_kindAt_13 : decode cX0_kindAt 13 = .ok (.ireturn, 1) := by decide +kernel
theorem dX0_taken_0 : decode cX0_taken 0 = .ok (.iload_n 1, 1) := by decide +kernel
theorem dX0_taken_1 : decode cX0_taken 1 = .ok (.istore_n 3, 1) := by decide +kernel
theorem dX0_taken_2 : decode cX0_taken 2 = .ok (.iconst 0, 1) := by decide +kernel
theorem dX0_taken_3 : decode cX0_taken 3 = .ok (.istore 4, 2) := by decide +kernel
theorem dX0_taken_5 : decode cX0_taken 5 = .ok (.iload 4, 2) := by decide +kernel
theorem dX0_taken_7 : decode cX0_taken 7 = .ok (.iload_n 2, 1) := by decide +kernel
theorem dX0_taken_8 : decode cX0_taken 8 = .ok (.if_icmp .ge 31, 3) := by decide +kernel
theorem dX0_taken_11 : decode cX0_taken 11 = .ok (.iload_n 0, 1) := by decide +kernel
theorem dX0_taken_12 : decode cX0_taken 12 = .ok (.iload 4, 2) := by decide +kernel
theorem dX0_taken_14 : decode cX0_taken 14 = .ok (.ishr, 1) := by decide +kernel
theorem dX0_taken_15 : decode cX0_taken 15 = .ok (.iconst 1, 1) := by decide +kernel
theorem dX0_taken_16 : decode cX0_taken 16 = .ok (.iand, 1) := by decide +kernel
theorem dX0_taken_17 : decode cX0_taken 17 = .ok (.iconst 1, 1) := by decide +kernel
theorem dX0_taken_18 : decode cX0_taken 18 = .ok (.if_icmp .ne 15, 3) := by decide +kernel
theorem dX0_taken_21 : decode cX0_taken 21 = .ok (.iload_n 3, 1) := by decide +kernel
theorem dX0_taken_22 : decode cX0_taken 22 = .ok (.iload_n 3, 1) := by decide +kernel
theorem dX0_taken_23 : decode cX0_taken 23 = .ok (.iload 4, 2) := by decide +kernel
theorem dX0_taken_25 : decode cX0_taken 25 = .ok (.iload_n 2, 1) := by decide +kernel
theorem dX0_taken_26 : decode cX0_taken 26 = .ok (.invokestatic 13, 3) := by decide +kernel
theorem dX0_taken_29 : decode cX0_taken 29 = .ok (.iconst (-1), 1) := by decide +kernel
theorem dX0_taken_30 : decode cX0_taken 30 = .ok (.ixor, 1) := by decide +kernel
theorem dX0_taken_31 : decode cX0_taken 31 = .ok (.iand, 1) := by decide +kernel
theorem dX0_taken_32 : decode cX0_taken 32 = .ok (.istore_n 3, 1) := by decide +kernel
theorem dX0_taken_33 : decode cX0_taken 33 = .ok (.iinc 4 1, 3) := by decide +kernel
theorem dX0_taken_36 : decode cX0_taken 36 = .ok (.goto (-31), 3) := by decide +kernel
theorem dX0_taken_39 : decode cX0_taken 39 = .ok (.iload_n 1, 1) := by decide +kernel
theorem dX0_taken_40 : decode cX0_taken 40 = .ok (.iload_n 3, 1) := by decide +kernel
theorem dX0_taken_41 : decode cX0_taken 41 = .ok (.iconst (-1), 1) := by decide +kernel
theorem dX0_taken_42 : decode cX0_taken 42 = .ok (.ixor, 1) := by decide +kernel
theorem dX0_taken_43 : decode cX0_taken 43 = .ok (.iand, 1) := by decide +kernel
theorem dX0_taken_44 : decode cX0_taken 44 = .ok (.ireturn, 1) := by decide +kernel
theorem dX0_firstToTheLeft_0 : decode cX0_firstToTheLeft 0 = .ok (.iload_n 1, 1) := by decide +kernel
theorem dX0_firstToTheLeft_1 : decode cX0_firstToTheLeft 1 = .ok (.istore_n 3, 1) := by decide +kernel
theorem dX0_firstToTheLeft_2 : decode cX0_firstToTheLeft 2 = .ok (.iconst 0, 1) := by decide +kernel
theorem dX0_firstToTheLeft_3 : decode cX0_firstToTheLeft 3 = .ok (.istore 4, 2) := by decide +kernel
theorem dX0_firstToTheLeft_5 : decode cX0_firstToTheLeft 5 = .ok (.iload 4, 2) := by decide +kernel
theorem dX0_firstToTheLeft_7 : decode cX0_firstToTheLeft 7 = .ok (.iload_n 2, 1) := by decide +kernel
theorem dX0_firstToTheLeft_8 : decode cX0_firstToTheLeft 8 = .ok (.if_icmp .ge 36, 3) := by decide +kernel
theorem dX0_firstToTheLeft_11 : decode cX0_firstToTheLeft 11 = .ok (.iload_n 0, 1) := by decide +kernel
theorem dX0_firstToTheLeft_12 : decode cX0_firstToTheLeft 12 = .ok (.iload_n 3, 1) := by decide +kernel
theorem dX0_firstToTheLeft_13 : decode cX0_firstToTheLeft 13 = .ok (.ishr, 1) := by decide +kernel
theorem dX0_firstToTheLeft_14 : decode cX0_firstToTheLeft 14 = .ok (.iconst 1, 1) := by decide +kernel
theorem dX0_firstToTheLeft_15 : decode cX0_firstToTheLeft 15 = .ok (.iand, 1) := by decide +kernel
theorem dX0_firstToTheLeft_16 : decode cX0_firstToTheLeft 16 = .ok (.iconst 1, 1) := by decide +kernel
theorem dX0_firstToTheLeft_17 : decode cX0_firstToTheLeft 17 = .ok (.if_icmp .ne 7, 3) := by decide +kernel
theorem dX0_firstToTheLeft_20 : decode cX0_firstToTheLeft 20 = .ok (.iconst 1, 1) := by decide +kernel
theorem dX0_firstToTheLeft_21 : decode cX0_firstToTheLeft 21 = .ok (.iload_n 3, 1) := by decide +kernel
theorem dX0_firstToTheLeft_22 : decode cX0_firstToTheLeft 22 = .ok (.ishl, 1) := by decide +kernel
theorem dX0_firstToTheLeft_23 : decode cX0_firstToTheLeft 23 = .ok (.ireturn, 1) := by decide +kernel
theorem dX0_firstToTheLeft_24 : decode cX0_firstToTheLeft 24 = .ok (.iload_n 3, 1) := by decide +kernel
theorem dX0_firstToTheLeft_25 : decode cX0_firstToTheLeft 25 = .ok (.ifCond .ne 9, 3) := by decide +kernel
theorem dX0_firstToTheLeft_28 : decode cX0_firstToTheLeft 28 = .ok (.iload_n 2, 1) := by decide +kernel
theorem dX0_firstToTheLeft_29 : decode cX0_firstToTheLeft 29 = .ok (.iconst 1, 1) := by decide +kernel
theorem dX0_firstToTheLeft_30 : decode cX0_firstToTheLeft 30 = .ok (.isub, 1) := by decide +kernel
theorem dX0_firstToTheLeft_31 : decode cX0_firstToTheLeft 31 = .ok (.goto 6, 3) := by decide +kernel
theorem dX0_firstToTheLeft_34 : decode cX0_firstToTheLeft 34 = .ok (.iload_n 3, 1) := by decide +kernel
theorem dX0_firstToTheLeft_35 : decode cX0_firstToTheLeft 35 = .ok (.iconst 1, 1) := by decide +kernel
theorem dX0_firstToTheLeft_36 : decode cX0_firstToTheLeft 36 = .ok (.isub, 1) := by decide +kernel
theorem dX0_firstToTheLeft_37 : decode cX0_firstToTheLeft 37 = .ok (.istore_n 3, 1) := by decide +kernel
theorem dX0_firstToTheLeft_38 : decode cX0_firstToTheLeft 38 = .ok (.iinc 4 1, 3) := by decide +kernel
theorem dX0_firstToTheLeft_41 : decode cX0_firstToTheLeft 41 = .ok (.goto (-36), 3) := by decide +kernel
theorem dX0_firstToTheLeft_44 : decode cX0_firstToTheLeft 44 = .ok (.iconst 0, 1) := by decide +kernel
theorem dX0_firstToTheLeft_45 : decode cX0_firstToTheLeft 45 = .ok (.ireturn, 1) := by decide +kernel
theorem dX0_seenAs_0 : decode cX0_seenAs 0 = .ok (.iconst 0, 1) := by decide +kernel
theorem dX0_seenAs_1 : decode cX0_seenAs 1 = .ok (.istore_n 3, 1) := by decide +kernel
theorem dX0_seenAs_2 : decode cX0_seenAs 2 = .ok (.iload_n 0, 1) := by decide +kernel
theorem dX0_seenAs_3 : decode cX0_seenAs 3 = .ok (.invokestatic 16, 3) := by decide +kernel
theorem dX0_seenAs_6 : decode cX0_seenAs 6 = .ok (.istore 4, 2) := by decide +kernel
theorem dX0_seenAs_8 : decode cX0_seenAs 8 = .ok (.iconst 0, 1) := by decide +kernel
theorem dX0_seenAs_9 : decode cX0_seenAs 9 = .ok (.istore 5, 2) := by decide +kernel
theorem dX0_seenAs_11 : decode cX0_seenAs 11 = .ok (.iload 5, 2) := by decide +kernel
theorem dX0_seenAs_13 : decode cX0_seenAs 13 = .ok (.iconst 1, 1) := by decide +kernel
theorem dX0_seenAs_14 : decode cX0_seenAs 14 = .ok (.iload_n 2, 1) := by decide +kernel
theorem dX0_seenAs_15 : decode cX0_seenAs 15 = .ok (.ishl, 1) := by decide +kernel
theorem dX0_seenAs_16 : decode cX0_seenAs 16 = .ok (.if_icmp .ge 35, 3) := by decide +kernel
theorem dX0_seenAs_19 : decode cX0_seenAs 19 = .ok (.iload 5, 2) := by decide +kernel
theorem dX0_seenAs_21 : decode cX0_seenAs 21 = .ok (.invokestatic 16, 3) := by decide +kernel
theorem dX0_seenAs_24 : decode cX0_seenAs 24 = .ok (.iload 4, 2) := by decide +kernel
theorem dX0_seenAs_26 : decode cX0_seenAs 26 = .ok (.if_icmp .ne 19, 3) := by decide +kernel
theorem dX0_seenAs_29 : decode cX0_seenAs 29 = .ok (.iload 5, 2) := by decide +kernel
theorem dX0_seenAs_31 : decode cX0_seenAs 31 = .ok (.iload_n 0, 1) := by decide +kernel
theorem dX0_seenAs_32 : decode cX0_seenAs 32 = .ok (.iload_n 1, 1) := by decide +kernel
theorem dX0_seenAs_33 : decode cX0_seenAs 33 = .ok (.ior, 1) := by decide +kernel
theorem dX0_seenAs_34 : decode cX0_seenAs 34 = .ok (.iload_n 2, 1) := by decide +kernel
theorem dX0_seenAs_35 : decode cX0_seenAs 35 = .ok (.invokestatic 22, 3) := by decide +kernel
theorem dX0_seenAs_38 : decode cX0_seenAs 38 = .ok (.iload_n 0, 1) := by decide +kernel
theorem dX0_seenAs_39 : decode cX0_seenAs 39 = .ok (.if_icmp .ne 6, 3) := by decide +kernel
theorem dX0_seenAs_42 : decode cX0_seenAs 42 = .ok (.iinc 3 1, 3) := by decide +kernel
theorem dX0_seenAs_45 : decode cX0_seenAs 45 = .ok (.iinc 5 1, 3) := by decide +kernel
theorem dX0_seenAs_48 : decode cX0_seenAs 48 = .ok (.goto (-37), 3) := by decide +kernel
theorem dX0_seenAs_51 : decode cX0_seenAs 51 = .ok (.iload_n 3, 1) := by decide +kernel
theorem dX0_seenAs_52 : decode cX0_seenAs 52 = .ok (.ireturn, 1) := by decide +kernel
theorem dX0_hops_0 : decode cX0_hops 0 = .ok (.iload_n 0, 1) := by decide +kernel
theorem dX0_hops_1 : decode cX0_hops 1 = .ok (.iconst 1, 1) := by decide +kernel
theorem dX0_hops_2 : decode cX0_hops 2 = .ok (.if_icmp .ne 8, 3) := by decide +kernel
theorem dX0_hops_5 : decode cX0_hops 5 = .ok (.iload_n 1, 1) := by decide +kernel
theorem dX0_hops_6 : decode cX0_hops 6 = .ok (.iconst 1, 1) := by decide +kernel
theorem dX0_hops_7 : decode cX0_hops 7 = .ok (.if_icmp .ne 12, 3) := by decide +kernel
theorem dX0_hops_10 : decode cX0_hops 10 = .ok (.iload_n 0, 1) := by decide +kernel
theorem dX0_hops_11 : decode cX0_hops 11 = .ok (.iconst 2, 1) := by decide +kernel
theorem dX0_hops_12 : decode cX0_hops 12 = .ok (.if_icmp .ne 11, 3) := by decide +kernel
theorem dX0_hops_15 : decode cX0_hops 15 = .ok (.iload_n 1, 1) := by decide +kernel
theorem dX0_hops_16 : decode cX0_hops 16 = .ok (.ifCond .ne 7, 3) := by decide +kernel
theorem dX0_hops_19 : decode cX0_hops 19 = .ok (.iconst 1, 1) := by decide +kernel
theorem dX0_hops_20 : decode cX0_hops 20 = .ok (.goto 4, 3) := by decide +kernel
theorem dX0_hops_23 : decode cX0_hops 23 = .ok (.iconst 0, 1) := by decide +kernel
theorem dX0_hops_24 : decode cX0_hops 24 = .ok (.ireturn, 1) := by decide +kernel
theorem dX0_nextPlace_0 : decode cX0_nextPlace 0 = .ok (.iload_n 0, 1) := by decide +kernel
theorem dX0_nextPlace_1 : decode cX0_nextPlace 1 = .ok (.iconst 1, 1) := by decide +kernel
theorem dX0_nextPlace_2 : decode cX0_nextPlace 2 = .ok (.iadd, 1) := by decide +kernel
theorem dX0_nextPlace_3 : decode cX0_nextPlace 3 = .ok (.iload_n 1, 1) := by decide +kernel
theorem dX0_nextPlace_4 : decode cX0_nextPlace 4 = .ok (.if_icmp .ne 7, 3) := by decide +kernel
theorem dX0_nextPlace_7 : decode cX0_nextPlace 7 = .ok (.iconst 0, 1) := by decide +kernel
theorem dX0_nextPlace_8 : decode cX0_nextPlace 8 = .ok (.goto 6, 3) := by decide +kernel
theorem dX0_nextPlace_11 : decode cX0_nextPlace 11 = .ok (.iload_n 0, 1) := by decide +kernel
theorem dX0_nextPlace_12 : decode cX0_nextPlace 12 = .ok (.iconst 1, 1) := by decide +kernel
theorem dX0_nextPlace_13 : decode cX0_nextPlace 13 = .ok (.iadd, 1) := by decide +kernel
theorem dX0_nextPlace_14 : decode cX0_nextPlace 14 = .ok (.ireturn, 1) := by decide +kernel
theorem dX0_hopsOut_0 : decode cX0_hopsOut 0 = .ok (.iconst 0, 1) := by decide +kernel
theorem dX0_hopsOut_1 : decode cX0_hopsOut 1 = .ok (.istore_n 3, 1) := by decide +kernel
theorem dX0_hopsOut_2 : decode cX0_hopsOut 2 = .ok (.iconst 0, 1) := by decide +kernel
theorem dX0_hopsOut_3 : decode cX0_hopsOut 3 = .ok (.istore 4, 2) := by decide +kernel
theorem dX0_hopsOut_5 : decode cX0_hopsOut 5 = .ok (.iload 4, 2) := by decide +kernel
theorem dX0_hopsOut_7 : decode cX0_hopsOut 7 = .ok (.iload_n 2, 1) := by decide +kernel
theorem dX0_hopsOut_8 : decode cX0_hopsOut 8 = .ok (.if_icmp .ge 36, 3) := by decide +kernel
theorem dX0_hopsOut_11 : decode cX0_hopsOut 11 = .ok (.iload_n 0, 1) := by decide +kernel
theorem dX0_hopsOut_12 : decode cX0_hopsOut 12 = .ok (.iload_n 1, 1) := by decide +kernel
theorem dX0_hopsOut_13 : decode cX0_hopsOut 13 = .ok (.iload 4, 2) := by decide +kernel
theorem dX0_hopsOut_15 : decode cX0_hopsOut 15 = .ok (.invokestatic 7, 3) := by decide +kernel
theorem dX0_hopsOut_18 : decode cX0_hopsOut 18 = .ok (.iload_n 0, 1) := by decide +kernel
theorem dX0_hopsOut_19 : decode cX0_hopsOut 19 = .ok (.iload_n 1, 1) := by decide +kernel
theorem dX0_hopsOut_20 : decode cX0_hopsOut 20 = .ok (.iload 4, 2) := by decide +kernel
theorem dX0_hopsOut_22 : decode cX0_hopsOut 22 = .ok (.iload_n 2, 1) := by decide +kernel
theorem dX0_hopsOut_23 : decode cX0_hopsOut 23 = .ok (.invokestatic 25, 3) := by decide +kernel
theorem dX0_hopsOut_26 : decode cX0_hopsOut 26 = .ok (.invokestatic 7, 3) := by decide +kernel
theorem dX0_hopsOut_29 : decode cX0_hopsOut 29 = .ok (.invokestatic 29, 3) := by decide +kernel
theorem dX0_hopsOut_32 : decode cX0_hopsOut 32 = .ok (.ifCond .eq 6, 3) := by decide +kernel
theorem dX0_hopsOut_35 : decode cX0_hopsOut 35 = .ok (.iinc 3 1, 3) := by decide +kernel
theorem dX0_hopsOut_38 : decode cX0_hopsOut 38 = .ok (.iinc 4 1, 3) := by decide +kernel
theorem dX0_hopsOut_41 : decode cX0_hopsOut 41 = .ok (.goto (-36), 3) := by decide +kernel
theorem dX0_hopsOut_44 : decode cX0_hopsOut 44 = .ok (.iload_n 3, 1) := by decide +kernel
theorem dX0_hopsOut_45 : decode cX0_hopsOut 45 = .ok (.ireturn, 1) := by decide +kernel
theorem dX0_seenBefore_0 : decode cX0_seenBefore 0 = .ok (.iconst 0, 1) := by decide +kernel
theorem dX0_seenBefore_1 : decode cX0_seenBefore 1 = .ok (.istore_n 3, 1) := by decide +kernel
theorem dX0_seenBefore_2 : decode cX0_seenBefore 2 = .ok (.iconst 0, 1) := by decide +kernel
theorem dX0_seenBefore_3 : decode cX0_seenBefore 3 = .ok (.istore 4, 2) := by decide +kernel
theorem dX0_seenBefore_5 : decode cX0_seenBefore 5 = .ok (.iload 4, 2) := by decide +kernel
theorem dX0_seenBefore_7 : decode cX0_seenBefore 7 = .ok (.iload_n 2, 1) := by decide +kernel
theorem dX0_seenBefore_8 : decode cX0_seenBefore 8 = .ok (.if_icmp .ge 60, 3) := by decide +kernel
theorem dX0_seenBefore_11 : decode cX0_seenBefore 11 = .ok (.iload 4, 2) := by decide +kernel
theorem dX0_seenBefore_13 : decode cX0_seenBefore 13 = .ok (.iload_n 2, 1) := by decide +kernel
theorem dX0_seenBefore_14 : decode cX0_seenBefore 14 = .ok (.invokestatic 25, 3) := by decide +kernel
theorem dX0_seenBefore_17 : decode cX0_seenBefore 17 = .ok (.istore 5, 2) := by decide +kernel
theorem dX0_seenBefore_19 : decode cX0_seenBefore 19 = .ok (.iload_n 0, 1) := by decide +kernel
theorem dX0_seenBefore_20 : decode cX0_seenBefore 20 = .ok (.iload_n 1, 1) := by decide +kernel
theorem dX0_seenBefore_21 : decode cX0_seenBefore 21 = .ok (.iload 5, 2) := by decide +kernel
theorem dX0_seenBefore_23 : decode cX0_seenBefore 23 = .ok (.invokestatic 7, 3) := by decide +kernel
theorem dX0_seenBefore_26 : decode cX0_seenBefore 26 = .ok (.iload_n 0, 1) := by decide +kernel
theorem dX0_seenBefore_27 : decode cX0_seenBefore 27 = .ok (.iload_n 1, 1) := by decide +kernel
theorem dX0_seenBefore_28 : decode cX0_seenBefore 28 = .ok (.iload 4, 2) := by decide +kernel
theorem dX0_seenBefore_30 : decode cX0_seenBefore 30 = .ok (.invokestatic 7, 3) := by decide +kernel
theorem dX0_seenBefore_33 : decode cX0_seenBefore 33 = .ok (.invokestatic 29, 3) := by decide +kernel
theorem dX0_seenBefore_36 : decode cX0_seenBefore 36 = .ok (.ifCond .eq 26, 3) := by decide +kernel
theorem dX0_seenBefore_39 : decode cX0_seenBefore 39 = .ok (.iload_n 3, 1) := by decide +kernel
theorem dX0_seenBefore_40 : decode cX0_seenBefore 40 = .ok (.iload_n 0, 1) := by decide +kernel
theorem dX0_seenBefore_41 : decode cX0_seenBefore 41 = .ok (.iload 4, 2) := by decide +kernel
theorem dX0_seenBefore_43 : decode cX0_seenBefore 43 = .ok (.iload 5, 2) := by decide +kernel
theorem dX0_seenBefore_45 : decode cX0_seenBefore 45 = .ok (.invokestatic 33, 3) := by decide +kernel
theorem dX0_seenBefore_48 : decode cX0_seenBefore 48 = .ok (.iload_n 1, 1) := by decide +kernel
theorem dX0_seenBefore_49 : decode cX0_seenBefore 49 = .ok (.iload 4, 2) := by decide +kernel
theorem dX0_seenBefore_51 : decode cX0_seenBefore 51 = .ok (.iload 5, 2) := by decide +kernel
theorem dX0_seenBefore_53 : decode cX0_seenBefore 53 = .ok (.invokestatic 33, 3) := by decide +kernel
theorem dX0_seenBefore_56 : decode cX0_seenBefore 56 = .ok (.iload_n 2, 1) := by decide +kernel
theorem dX0_seenBefore_57 : decode cX0_seenBefore 57 = .ok (.invokestatic 36, 3) := by decide +kernel
theorem dX0_seenBefore_60 : decode cX0_seenBefore 60 = .ok (.iadd, 1) := by decide +kernel
theorem dX0_seenBefore_61 : decode cX0_seenBefore 61 = .ok (.istore_n 3, 1) := by decide +kernel
theorem dX0_seenBefore_62 : decode cX0_seenBefore 62 = .ok (.iinc 4 1, 3) := by decide +kernel
theorem dX0_seenBefore_65 : decode cX0_seenBefore 65 = .ok (.goto (-60), 3) := by decide +kernel
theorem dX0_seenBefore_68 : decode cX0_seenBefore 68 = .ok (.iload_n 3, 1) := by decide +kernel
theorem dX0_seenBefore_69 : decode cX0_seenBefore 69 = .ok (.ireturn, 1) := by decide +kernel
theorem dX0_changed_0 : decode cX0_changed 0 = .ok (.iload_n 0, 1) := by decide +kernel
theorem dX0_changed_1 : decode cX0_changed 1 = .ok (.iload_n 1, 1) := by decide +kernel
theorem dX0_changed_2 : decode cX0_changed 2 = .ok (.ishr, 1) := by decide +kernel
theorem dX0_changed_3 : decode cX0_changed 3 = .ok (.iconst 1, 1) := by decide +kernel
theorem dX0_changed_4 : decode cX0_changed 4 = .ok (.iand, 1) := by decide +kernel
theorem dX0_changed_5 : decode cX0_changed 5 = .ok (.iload_n 0, 1) := by decide +kernel
theorem dX0_changed_6 : decode cX0_changed 6 = .ok (.iload_n 2, 1) := by decide +kernel
theorem dX0_changed_7 : decode cX0_changed 7 = .ok (.ishr, 1) := by decide +kernel
theorem dX0_changed_8 : decode cX0_changed 8 = .ok (.iconst 1, 1) := by decide +kernel
theorem dX0_changed_9 : decode cX0_changed 9 = .ok (.iand, 1) := by decide +kernel
theorem dX0_changed_10 : decode cX0_changed 10 = .ok (.if_icmp .ne 7, 3) := by decide +kernel
theorem dX0_changed_13 : decode cX0_changed 13 = .ok (.iconst 1, 1) := by decide +kernel
theorem dX0_changed_14 : decode cX0_changed 14 = .ok (.goto 4, 3) := by decide +kernel
theorem dX0_changed_17 : decode cX0_changed 17 = .ok (.iconst 0, 1) := by decide +kernel
theorem dX0_changed_18 : decode cX0_changed 18 = .ok (.istore_n 3, 1) := by decide +kernel
theorem dX0_changed_19 : decode cX0_changed 19 = .ok (.iload_n 3, 1) := by decide +kernel
theorem dX0_changed_20 : decode cX0_changed 20 = .ok (.ifCond .eq 7, 3) := by decide +kernel
theorem dX0_changed_23 : decode cX0_changed 23 = .ok (.iload_n 0, 1) := by decide +kernel
theorem dX0_changed_24 : decode cX0_changed 24 = .ok (.goto 12, 3) := by decide +kernel
theorem dX0_changed_27 : decode cX0_changed 27 = .ok (.iload_n 0, 1) := by decide +kernel
theorem dX0_changed_28 : decode cX0_changed 28 = .ok (.iconst 1, 1) := by decide +kernel
theorem dX0_changed_29 : decode cX0_changed 29 = .ok (.iload_n 1, 1) := by decide +kernel
theorem dX0_changed_30 : decode cX0_changed 30 = .ok (.ishl, 1) := by decide +kernel
theorem dX0_changed_31 : decode cX0_changed 31 = .ok (.iconst 1, 1) := by decide +kernel
theorem dX0_changed_32 : decode cX0_changed 32 = .ok (.iload_n 2, 1) := by decide +kernel
theorem dX0_changed_33 : decode cX0_changed 33 = .ok (.ishl, 1) := by decide +kernel
theorem dX0_changed_34 : decode cX0_changed 34 = .ok (.ior, 1) := by decide +kernel
theorem dX0_changed_35 : decode cX0_changed 35 = .ok (.ixor, 1) := by decide +kernel
theorem dX0_changed_36 : decode cX0_changed 36 = .ok (.ireturn, 1) := by decide +kernel
theorem dX1_init_0 : decode cX1_init 0 = .ok (.aload_n 0, 1) := by decide +kernel
theorem dX1_init_1 : decode cX1_init 1 = .ok (.invokespecial 1, 3) := by decide +kernel
theorem dX1_init_4 : decode cX1_init 4 = .ok (.aload_n 0, 1) := by decide +kernel
theorem dX1_init_5 : decode cX1_init 5 = .ok (.bipush 8, 2) := by decide +kernel
theorem dX1_init_7 : decode cX1_init 7 = .ok (.newarray .int, 2) := by decide +kernel
theorem dX1_init_9 : decode cX1_init 9 = .ok (.putfield 9, 3) := by decide +kernel
theorem dX1_init_12 : decode cX1_init 12 = .ok (.iconst 0, 1) := by decide +kernel
theorem dX1_init_13 : decode cX1_init 13 = .ok (.istore_n 1, 1) := by decide +kernel
theorem dX1_init_14 : decode cX1_init 14 = .ok (.iload_n 1, 1) := by decide +kernel
theorem dX1_init_15 : decode cX1_init 15 = .ok (.bipush 8, 2) := by decide +kernel
theorem dX1_init_17 : decode cX1_init 17 = .ok (.if_icmp .ge 19, 3) := by decide +kernel
theorem dX1_init_20 : decode cX1_init 20 = .ok (.aload_n 0, 1) := by decide +kernel
theorem dX1_init_21 : decode cX1_init 21 = .ok (.getfield 9, 3) := by decide +kernel
theorem dX1_init_24 : decode cX1_init 24 = .ok (.iload_n 1, 1) := by decide +kernel
theorem dX1_init_25 : decode cX1_init 25 = .ok (.iload_n 1, 1) := by decide +kernel
theorem dX1_init_26 : decode cX1_init 26 = .ok (.invokestatic 13, 3) := by decide +kernel
theorem dX1_init_29 : decode cX1_init 29 = .ok (.iastore, 1) := by decide +kernel
theorem dX1_init_30 : decode cX1_init 30 = .ok (.iinc 1 1, 3) := by decide +kernel
theorem dX1_init_33 : decode cX1_init 33 = .ok (.goto (-19), 3) := by decide +kernel
theorem dX1_init_36 : decode cX1_init 36 = .ok (.return_, 1) := by decide +kernel
theorem dX1_atFirst_0 : decode cX1_atFirst 0 = .ok (.iload_n 0, 1) := by decide +kernel
theorem dX1_atFirst_1 : decode cX1_atFirst 1 = .ok (.tableswitch 51 0 6 #[43, 51, 45, 51, 47, 51, 49], 43) := by decide +kernel
theorem dX1_atFirst_44 : decode cX1_atFirst 44 = .ok (.iconst 4, 1) := by decide +kernel
theorem dX1_atFirst_45 : decode cX1_atFirst 45 = .ok (.ireturn, 1) := by decide +kernel
theorem dX1_atFirst_46 : decode cX1_atFirst 46 = .ok (.iconst 1, 1) := by decide +kernel
theorem dX1_atFirst_47 : decode cX1_atFirst 47 = .ok (.ireturn, 1) := by decide +kernel
theorem dX1_atFirst_48 : decode cX1_atFirst 48 = .ok (.iconst 1, 1) := by decide +kernel
theorem dX1_atFirst_49 : decode cX1_atFirst 49 = .ok (.ireturn, 1) := by decide +kernel
theorem dX1_atFirst_50 : decode cX1_atFirst 50 = .ok (.iconst 1, 1) := by decide +kernel
theorem dX1_atFirst_51 : decode cX1_atFirst 51 = .ok (.ireturn, 1) := by decide +kernel
theorem dX1_atFirst_52 : decode cX1_atFirst 52 = .ok (.iconst 0, 1) := by decide +kernel
theorem dX1_atFirst_53 : decode cX1_atFirst 53 = .ok (.ireturn, 1) := by decide +kernel
theorem dX1_value_0 : decode cX1_value 0 = .ok (.iload_n 1, 1) := by decide +kernel
theorem dX1_value_1 : decode cX1_value 1 = .ok (.ifCond .lt 21, 3) := by decide +kernel
theorem dX1_value_4 : decode cX1_value 4 = .ok (.iload_n 1, 1) := by decide +kernel
theorem dX1_value_5 : decode cX1_value 5 = .ok (.aload_n 0, 1) := by decide +kernel
theorem dX1_value_6 : decode cX1_value 6 = .ok (.getfield 9, 3) := by decide +kernel
theorem dX1_value_9 : decode cX1_value 9 = .ok (.arraylength, 1) := by decide +kernel
theorem dX1_value_10 : decode cX1_value 10 = .ok (.if_icmp .ge 12, 3) := by decide +kernel
theorem dX1_value_13 : decode cX1_value 13 = .ok (.aload_n 0, 1) := by decide +kernel
theorem dX1_value_14 : decode cX1_value 14 = .ok (.getfield 9, 3) := by decide +kernel
theorem dX1_value_17 : decode cX1_value 17 = .ok (.iload_n 1, 1) := by decide +kernel
theorem dX1_value_18 : decode cX1_value 18 = .ok (.iaload, 1) := by decide +kernel
theorem dX1_value_19 : decode cX1_value 19 = .ok (.goto 4, 3) := by decide +kernel
theorem dX1_value_22 : decode cX1_value 22 = .ok (.iconst 0, 1) := by decide +kernel
theorem dX1_value_23 : decode cX1_value 23 = .ok (.ireturn, 1) := by decide +kernel
theorem dX1_tellValue_0 : decode cX1_tellValue 0 = .ok (.iload_n 1, 1) := by decide +kernel
theorem dX1_tellValue_1 : decode cX1_tellValue 1 = .ok (.ifCond .lt 19, 3) := by decide +kernel
theorem dX1_tellValue_4 : decode cX1_tellValue 4 = .ok (.iload_n 1, 1) := by decide +kernel
theorem dX1_tellValue_5 : decode cX1_tellValue 5 = .ok (.aload_n 0, 1) := by decide +kernel
theorem dX1_tellValue_6 : decode cX1_tellValue 6 = .ok (.getfield 9, 3) := by decide +kernel
theorem dX1_tellValue_9 : decode cX1_tellValue 9 = .ok (.arraylength, 1) := by decide +kernel
theorem dX1_tellValue_10 : decode cX1_tellValue 10 = .ok (.if_icmp .ge 10, 3) := by decide +kernel
theorem dX1_tellValue_13 : decode cX1_tellValue 13 = .ok (.aload_n 0, 1) := by decide +kernel
theorem dX1_tellValue_14 : decode cX1_tellValue 14 = .ok (.getfield 9, 3) := by decide +kernel
theorem dX1_tellValue_17 : decode cX1_tellValue 17 = .ok (.iload_n 1, 1) := by decide +kernel
theorem dX1_tellValue_18 : decode cX1_tellValue 18 = .ok (.iload_n 2, 1) := by decide +kernel
theorem dX1_tellValue_19 : decode cX1_tellValue 19 = .ok (.iastore, 1) := by decide +kernel
theorem dX1_tellValue_20 : decode cX1_tellValue 20 = .ok (.return_, 1) := by decide +kernel
theorem dX1_places_0 : decode cX1_places 0 = .ok (.aload_n 0, 1) := by decide +kernel
theorem dX1_places_1 : decode cX1_places 1 = .ok (.getfield 9, 3) := by decide +kernel
theorem dX1_places_4 : decode cX1_places 4 = .ok (.iconst 0, 1) := by decide +kernel
theorem dX1_places_5 : decode cX1_places 5 = .ok (.iaload, 1) := by decide +kernel
theorem dX1_places_6 : decode cX1_places 6 = .ok (.ireturn, 1) := by decide +kernel
theorem dX1_isOpen_0 : decode cX1_isOpen 0 = .ok (.aload_n 0, 1) := by decide +kernel
theorem dX1_isOpen_1 : decode cX1_isOpen 1 = .ok (.getfield 9, 3) := by decide +kernel
theorem dX1_isOpen_4 : decode cX1_isOpen 4 = .ok (.iconst 1, 1) := by decide +kernel
theorem dX1_isOpen_5 : decode cX1_isOpen 5 = .ok (.iaload, 1) := by decide +kernel
theorem dX1_isOpen_6 : decode cX1_isOpen 6 = .ok (.iconst 1, 1) := by decide +kernel
theorem dX1_isOpen_7 : decode cX1_isOpen 7 = .ok (.if_icmp .ne 7, 3) := by decide +kernel
theorem dX1_isOpen_10 : decode cX1_isOpen 10 = .ok (.iconst 1, 1) := by decide +kernel
theorem dX1_isOpen_11 : decode cX1_isOpen 11 = .ok (.goto 4, 3) := by decide +kernel
theorem dX1_isOpen_14 : decode cX1_isOpen 14 = .ok (.iconst 0, 1) := by decide +kernel
theorem dX1_isOpen_15 : decode cX1_isOpen 15 = .ok (.ireturn, 1) := by decide +kernel
theorem dX1_states_0 : decode cX1_states 0 = .ok (.iconst 1, 1) := by decide +kernel
theorem dX1_states_1 : decode cX1_states 1 = .ok (.aload_n 0, 1) := by decide +kernel
theorem dX1_states_2 : decode cX1_states 2 = .ok (.invokevirtual 17, 3) := by decide +kernel
theorem dX1_states_5 : decode cX1_states 5 = .ok (.ishl, 1) := by decide +kernel
theorem dX1_states_6 : decode cX1_states 6 = .ok (.ireturn, 1) := by decide +kernel
theorem dX1_isState_0 : decode cX1_isState 0 = .ok (.iload_n 1, 1) := by decide +kernel
theorem dX1_isState_1 : decode cX1_isState 1 = .ok (.ifCond .lt 15, 3) := by decide +kernel
theorem dX1_isState_4 : decode cX1_isState 4 = .ok (.iload_n 1, 1) := by decide +kernel
theorem dX1_isState_5 : decode cX1_isState 5 = .ok (.aload_n 0, 1) := by decide +kernel
theorem dX1_isState_6 : decode cX1_isState 6 = .ok (.invokevirtual 21, 3) := by decide +kernel
theorem dX1_isState_9 : decode cX1_isState 9 = .ok (.if_icmp .ge 7, 3) := by decide +kernel
theorem dX1_isState_12 : decode cX1_isState 12 = .ok (.iconst 1, 1) := by decide +kernel
theorem dX1_isState_13 : decode cX1_isState 13 = .ok (.goto 4, 3) := by decide +kernel
theorem dX1_isState_16 : decode cX1_isState 16 = .ok (.iconst 0, 1) := by decide +kernel
theorem dX1_isState_17 : decode cX1_isState 17 = .ok (.ireturn, 1) := by decide +kernel
theorem dX1_isPlace_0 : decode cX1_isPlace 0 = .ok (.iload_n 1, 1) := by decide +kernel
theorem dX1_isPlace_1 : decode cX1_isPlace 1 = .ok (.ifCond .lt 15, 3) := by decide +kernel
theorem dX1_isPlace_4 : decode cX1_isPlace 4 = .ok (.iload_n 1, 1) := by decide +kernel
theorem dX1_isPlace_5 : decode cX1_isPlace 5 = .ok (.aload_n 0, 1) := by decide +kernel
theorem dX1_isPlace_6 : decode cX1_isPlace 6 = .ok (.invokevirtual 17, 3) := by decide +kernel
theorem dX1_isPlace_9 : decode cX1_isPlace 9 = .ok (.if_icmp .ge 7, 3) := by decide +kernel
theorem dX1_isPlace_12 : decode cX1_isPlace 12 = .ok (.iconst 1, 1) := by decide +kernel
theorem dX1_isPlace_13 : decode cX1_isPlace 13 = .ok (.goto 4, 3) := by decide +kernel
theorem dX1_isPlace_16 : decode cX1_isPlace 16 = .ok (.iconst 0, 1) := by decide +kernel
theorem dX1_isPlace_17 : decode cX1_isPlace 17 = .ok (.ireturn, 1) := by decide +kernel
theorem dX1_hasWords_0 : decode cX1_hasWords 0 = .ok (.aload_n 0, 1) := by decide +kernel
theorem dX1_hasWords_1 : decode cX1_hasWords 1 = .ok (.invokevirtual 24, 3) := by decide +kernel
theorem dX1_hasWords_4 : decode cX1_hasWords 4 = .ok (.ifCond .eq 64, 3) := by decide +kernel
theorem dX1_hasWords_7 : decode cX1_hasWords 7 = .ok (.aload_n 0, 1) := by decide +kernel
theorem dX1_hasWords_8 : decode cX1_hasWords 8 = .ok (.getfield 9, 3) := by decide +kernel
theorem dX1_hasWords_11 : decode cX1_hasWords 11 = .ok (.iconst 2, 1) := by decide +kernel
theorem dX1_hasWords_12 : decode cX1_hasWords 12 = .ok (.iaload, 1) := by decide +kernel
theorem dX1_hasWords_13 : decode cX1_hasWords 13 = .ok (.iconst 1, 1) := by decide +kernel
theorem dX1_hasWords_14 : decode cX1_hasWords 14 = .ok (.if_icmp .ne 54, 3) := by decide +kernel
theorem dX1_hasWords_17 : decode cX1_hasWords 17 = .ok (.aload_n 0, 1) := by decide +kernel
theorem dX1_hasWords_18 : decode cX1_hasWords 18 = .ok (.getfield 9, 3) := by decide +kernel
theorem dX1_hasWords_21 : decode cX1_hasWords 21 = .ok (.iconst 3, 1) := by decide +kernel
theorem dX1_hasWords_22 : decode cX1_hasWords 22 = .ok (.iaload, 1) := by decide +kernel
theorem dX1_hasWords_23 : decode cX1_hasWords 23 = .ok (.ifCond .ne 45, 3) := by decide +kernel
theorem dX1_hasWords_26 : decode cX1_hasWords 26 = .ok (.aload_n 0, 1) := by decide +kernel
theorem dX1_hasWords_27 : decode cX1_hasWords 27 = .ok (.getfield 9, 3) := by decide +kernel
theorem dX1_hasWords_30 : decode cX1_hasWords 30 = .ok (.iconst 5, 1) := by decide +kernel
theorem dX1_hasWords_31 : decode cX1_hasWords 31 = .ok (.iaload, 1) := by decide +kernel
theorem dX1_hasWords_32 : decode cX1_hasWords 32 = .ok (.ifCond .ne 36, 3) := by decide +kernel
theorem dX1_hasWords_35 : decode cX1_hasWords 35 = .ok (.aload_n 0, 1) := by decide +kernel
theorem dX1_hasWords_36 : decode cX1_hasWords 36 = .ok (.getfield 9, 3) := by decide +kernel
theorem dX1_hasWords_39 : decode cX1_hasWords 39 = .ok (.bipush 7, 2) := by decide +kernel
theorem dX1_hasWords_41 : decode cX1_hasWords 41 = .ok (.iaload, 1) := by decide +kernel
theorem dX1_hasWords_42 : decode cX1_hasWords 42 = .ok (.ifCond .ne 26, 3) := by decide +kernel
theorem dX1_hasWords_45 : decode cX1_hasWords 45 = .ok (.aload_n 0, 1) := by decide +kernel
theorem dX1_hasWords_46 : decode cX1_hasWords 46 = .ok (.getfield 9, 3) := by decide +kernel
theorem dX1_hasWords_49 : decode cX1_hasWords 49 = .ok (.iconst 4, 1) := by decide +kernel
theorem dX1_hasWords_50 : decode cX1_hasWords 50 = .ok (.iaload, 1) := by decide +kernel
theorem dX1_hasWords_51 : decode cX1_hasWords 51 = .ok (.ifCond .le 17, 3) := by decide +kernel
theorem dX1_hasWords_54 : decode cX1_hasWords 54 = .ok (.aload_n 0, 1) := by decide +kernel
theorem dX1_hasWords_55 : decode cX1_hasWords 55 = .ok (.getfield 9, 3) := by decide +kernel
theorem dX1_hasWords_58 : decode cX1_hasWords 58 = .ok (.bipush 6, 2) := by decide +kernel
theorem dX1_hasWords_60 : decode cX1_hasWords 60 = .ok (.iaload, 1) := by decide +kernel
theorem dX1_hasWords_61 : decode cX1_hasWords 61 = .ok (.ifCond .le 7, 3) := by decide +kernel
theorem dX1_hasWords_64 : decode cX1_hasWords 64 = .ok (.iconst 1, 1) := by decide +kernel
theorem dX1_hasWords_65 : decode cX1_hasWords 65 = .ok (.goto 4, 3) := by decide +kernel
theorem dX1_hasWords_68 : decode cX1_hasWords 68 = .ok (.iconst 0, 1) := by decide +kernel
theorem dX1_hasWords_69 : decode cX1_hasWords 69 = .ok (.ireturn, 1) := by decide +kernel
theorem dX1_gates_0 : decode cX1_gates 0 = .ok (.aload_n 0, 1) := by decide +kernel
theorem dX1_gates_1 : decode cX1_gates 1 = .ok (.invokevirtual 24, 3) := by decide +kernel
theorem dX1_gates_4 : decode cX1_gates 4 = .ok (.ifCond .eq 12, 3) := by decide +kernel
theorem dX1_gates_7 : decode cX1_gates 7 = .ok (.aload_n 0, 1) := by decide +kernel
theorem dX1_gates_8 : decode cX1_gates 8 = .ok (.invokevirtual 17, 3) := by decide +kernel
theorem dX1_gates_11 : decode cX1_gates 11 = .ok (.iconst 1, 1) := by decide +kernel
theorem dX1_gates_12 : decode cX1_gates 12 = .ok (.iadd, 1) := by decide +kernel
theorem dX1_gates_13 : decode cX1_gates 13 = .ok (.goto 7, 3) := by decide +kernel
theorem dX1_gates_16 : decode cX1_gates 16 = .ok (.aload_n 0, 1) := by decide +kernel
theorem dX1_gates_17 : decode cX1_gates 17 = .ok (.invokevirtual 17, 3) := by decide +kernel
theorem dX1_gates_20 : decode cX1_gates 20 = .ok (.ireturn, 1) := by decide +kernel
theorem dX1_besideGate_0 : decode cX1_besideGate 0 = .ok (.aload_n 0, 1) := by decide +kernel
theorem dX1_besideGate_1 : decode cX1_besideGate 1 = .ok (.invokevirtual 17, 3) := by decide +kernel
theorem dX1_besideGate_4 : decode cX1_besideGate 4 = .ok (.istore_n 2, 1) := by decide +kernel
theorem dX1_besideGate_5 : decode cX1_besideGate 5 = .ok (.aload_n 0, 1) := by decide +kernel
theorem dX1_besideGate_6 : decode cX1_besideGate 6 = .ok (.invokevirtual 24, 3) := by decide +kernel
theorem dX1_besideGate_9 : decode cX1_besideGate 9 = .ok (.ifCond .eq 15, 3) := by decide +kernel
theorem dX1_besideGate_12 : decode cX1_besideGate 12 = .ok (.iconst 3, 1) := by decide +kernel
theorem dX1_besideGate_13 : decode cX1_besideGate 13 = .ok (.iload_n 1, 1) := by decide +kernel
theorem dX1_besideGate_14 : decode cX1_besideGate 14 = .ok (.ishl, 1) := by decide +kernel
theorem dX1_besideGate_15 : decode cX1_besideGate 15 = .ok (.iconst 1, 1) := by decide +kernel
theorem dX1_besideGate_16 : decode cX1_besideGate 16 = .ok (.ishr, 1) := by decide +kernel
theorem dX1_besideGate_17 : decode cX1_besideGate 17 = .ok (.iconst 1, 1) := by decide +kernel
theorem dX1_besideGate_18 : decode cX1_besideGate 18 = .ok (.iload_n 2, 1) := by decide +kernel
theorem dX1_besideGate_19 : decode cX1_besideGate 19 = .ok (.ishl, 1) := by decide +kernel
theorem dX1_besideGate_20 : decode cX1_besideGate 20 = .ok (.iconst 1, 1) := by decide +kernel
theorem dX1_besideGate_21 : decode cX1_besideGate 21 = .ok (.isub, 1) := by decide +kernel
theorem dX1_besideGate_22 : decode cX1_besideGate 22 = .ok (.iand, 1) := by decide +kernel
theorem dX1_besideGate_23 : decode cX1_besideGate 23 = .ok (.ireturn, 1) := by decide +kernel
theorem dX1_besideGate_24 : decode cX1_besideGate 24 = .ok (.iconst 1, 1) := by decide +kernel
theorem dX1_besideGate_25 : decode cX1_besideGate 25 = .ok (.iload_n 1, 1) := by decide +kernel
theorem dX1_besideGate_26 : decode cX1_besideGate 26 = .ok (.ishl, 1) := by decide +kernel
theorem dX1_besideGate_27 : decode cX1_besideGate 27 = .ok (.iconst 1, 1) := by decide +kernel
theorem dX1_besideGate_28 : decode cX1_besideGate 28 = .ok (.iload_n 1, 1) := by decide +kernel
theorem dX1_besideGate_29 : decode cX1_besideGate 29 = .ok (.iconst 1, 1) := by decide +kernel
theorem dX1_besideGate_30 : decode cX1_besideGate 30 = .ok (.iadd, 1) := by decide +kernel
theorem dX1_besideGate_31 : decode cX1_besideGate 31 = .ok (.iload_n 2, 1) := by decide +kernel
theorem dX1_besideGate_32 : decode cX1_besideGate 32 = .ok (.if_icmp .ne 7, 3) := by decide +kernel
theorem dX1_besideGate_35 : decode cX1_besideGate 35 = .ok (.iconst 0, 1) := by decide +kernel
theorem dX1_besideGate_36 : decode cX1_besideGate 36 = .ok (.goto 6, 3) := by decide +kernel
theorem dX1_besideGate_39 : decode cX1_besideGate 39 = .ok (.iload_n 1, 1) := by decide +kernel
theorem dX1_besideGate_40 : decode cX1_besideGate 40 = .ok (.iconst 1, 1) := by decide +kernel
theorem dX1_besideGate_41 : decode cX1_besideGate 41 = .ok (.iadd, 1) := by decide +kernel
theorem dX1_besideGate_42 : decode cX1_besideGate 42 = .ok (.ishl, 1) := by decide +kernel
theorem dX1_besideGate_43 : decode cX1_besideGate 43 = .ok (.ior, 1) := by decide +kernel
theorem dX1_besideGate_44 : decode cX1_besideGate 44 = .ok (.ireturn, 1) := by decide +kernel
theorem dX1_rateOver_0 : decode cX1_rateOver 0 = .ok (.aload_n 0, 1) := by decide +kernel
theorem dX1_rateOver_1 : decode cX1_rateOver 1 = .ok (.invokevirtual 17, 3) := by decide +kernel
theorem dX1_rateOver_4 : decode cX1_rateOver 4 = .ok (.istore_n 3, 1) := by decide +kernel
theorem dX1_rateOver_5 : decode cX1_rateOver 5 = .ok (.aload_n 0, 1) := by decide +kernel
theorem dX1_rateOver_6 : decode cX1_rateOver 6 = .ok (.invokevirtual 24, 3) := by decide +kernel
theorem dX1_rateOver_9 : decode cX1_rateOver 9 = .ok (.ifCond .ne 24, 3) := by decide +kernel
theorem dX1_rateOver_12 : decode cX1_rateOver 12 = .ok (.aload_n 0, 1) := by decide +kernel
theorem dX1_rateOver_13 : decode cX1_rateOver 13 = .ok (.iload_n 1, 1) := by decide +kernel
theorem dX1_rateOver_14 : decode cX1_rateOver 14 = .ok (.iload_n 2, 1) := by decide +kernel
theorem dX1_rateOver_15 : decode cX1_rateOver 15 = .ok (.iload_n 2, 1) := by decide +kernel
theorem dX1_rateOver_16 : decode cX1_rateOver 16 = .ok (.iconst 1, 1) := by decide +kernel
theorem dX1_rateOver_17 : decode cX1_rateOver 17 = .ok (.iadd, 1) := by decide +kernel
theorem dX1_rateOver_18 : decode cX1_rateOver 18 = .ok (.iload_n 3, 1) := by decide +kernel
theorem dX1_rateOver_19 : decode cX1_rateOver 19 = .ok (.if_icmp .ne 7, 3) := by decide +kernel
theorem dX1_rateOver_22 : decode cX1_rateOver 22 = .ok (.iconst 0, 1) := by decide +kernel
theorem dX1_rateOver_23 : decode cX1_rateOver 23 = .ok (.goto 6, 3) := by decide +kernel
theorem dX1_rateOver_26 : decode cX1_rateOver 26 = .ok (.iload_n 2, 1) := by decide +kernel
theorem dX1_rateOver_27 : decode cX1_rateOver 27 = .ok (.iconst 1, 1) := by decide +kernel
theorem dX1_rateOver_28 : decode cX1_rateOver 28 = .ok (.iadd, 1) := by decide +kernel
theorem dX1_rateOver_29 : decode cX1_rateOver 29 = .ok (.invokevirtual 28, 3) := by decide +kernel
theorem dX1_rateOver_32 : decode cX1_rateOver 32 = .ok (.ireturn, 1) := by decide +kernel
theorem dX1_rateOver_33 : decode cX1_rateOver 33 = .ok (.iload_n 2, 1) := by decide +kernel
theorem dX1_rateOver_34 : decode cX1_rateOver 34 = .ok (.ifCond .ne 26, 3) := by decide +kernel
theorem dX1_rateOver_37 : decode cX1_rateOver 37 = .ok (.iload_n 1, 1) := by decide +kernel
theorem dX1_rateOver_38 : decode cX1_rateOver 38 = .ok (.iconst 1, 1) := by decide +kernel
theorem dX1_rateOver_39 : decode cX1_rateOver 39 = .ok (.iand, 1) := by decide +kernel
theorem dX1_rateOver_40 : decode cX1_rateOver 40 = .ok (.ifCond .ne 12, 3) := by decide +kernel
theorem dX1_rateOver_43 : decode cX1_rateOver 43 = .ok (.aload_n 0, 1) := by decide +kernel
theorem dX1_rateOver_44 : decode cX1_rateOver 44 = .ok (.getfield 9, 3) := by decide +kernel
theorem dX1_rateOver_47 : decode cX1_rateOver 47 = .ok (.iconst 4, 1) := by decide +kernel
theorem dX1_rateOver_48 : decode cX1_rateOver 48 = .ok (.iaload, 1) := by decide +kernel
theorem dX1_rateOver_49 : decode cX1_rateOver 49 = .ok (.goto 10, 3) := by decide +kernel
theorem dX1_rateOver_52 : decode cX1_rateOver 52 = .ok (.aload_n 0, 1) := by decide +kernel
theorem dX1_rateOver_53 : decode cX1_rateOver 53 = .ok (.getfield 9, 3) := by decide +kernel
theorem dX1_rateOver_56 : decode cX1_rateOver 56 = .ok (.bipush 7, 2) := by decide +kernel
theorem dX1_rateOver_58 : decode cX1_rateOver 58 = .ok (.iaload, 1) := by decide +kernel
theorem dX1_rateOver_59 : decode cX1_rateOver 59 = .ok (.ireturn, 1) := by decide +kernel
theorem dX1_rateOver_60 : decode cX1_rateOver 60 = .ok (.iload_n 2, 1) := by decide +kernel
theorem dX1_rateOver_61 : decode cX1_rateOver 61 = .ok (.iload_n 3, 1) := by decide +kernel
theorem dX1_rateOver_62 : decode cX1_rateOver 62 = .ok (.if_icmp .ne 31, 3) := by decide +kernel
theorem dX1_rateOver_65 : decode cX1_rateOver 65 = .ok (.iload_n 1, 1) := by decide +kernel
theorem dX1_rateOver_66 : decode cX1_rateOver 66 = .ok (.iload_n 3, 1) := by decide +kernel
theorem dX1_rateOver_67 : decode cX1_rateOver 67 = .ok (.iconst 1, 1) := by decide +kernel
theorem dX1_rateOver_68 : decode cX1_rateOver 68 = .ok (.isub, 1) := by decide +kernel
theorem dX1_rateOver_69 : decode cX1_rateOver 69 = .ok (.ishr, 1) := by decide +kernel
theorem dX1_rateOver_70 : decode cX1_rateOver 70 = .ok (.iconst 1, 1) := by decide +kernel
theorem dX1_rateOver_71 : decode cX1_rateOver 71 = .ok (.iand, 1) := by decide +kernel
theorem dX1_rateOver_72 : decode cX1_rateOver 72 = .ok (.iconst 1, 1) := by decide +kernel
theorem dX1_rateOver_73 : decode cX1_rateOver 73 = .ok (.if_icmp .ne 13, 3) := by decide +kernel
theorem dX1_rateOver_76 : decode cX1_rateOver 76 = .ok (.aload_n 0, 1) := by decide +kernel
theorem dX1_rateOver_77 : decode cX1_rateOver 77 = .ok (.getfield 9, 3) := by decide +kernel
theorem dX1_rateOver_80 : decode cX1_rateOver 80 = .ok (.bipush 6, 2) := by decide +kernel
theorem dX1_rateOver_82 : decode cX1_rateOver 82 = .ok (.iaload, 1) := by decide +kernel
theorem dX1_rateOver_83 : decode cX1_rateOver 83 = .ok (.goto 9, 3) := by decide +kernel
theorem dX1_rateOver_86 : decode cX1_rateOver 86 = .ok (.aload_n 0, 1) := by decide +kernel
theorem dX1_rateOver_87 : decode cX1_rateOver 87 = .ok (.getfield 9, 3) := by decide +kernel
theorem dX1_rateOver_90 : decode cX1_rateOver 90 = .ok (.iconst 5, 1) := by decide +kernel
theorem dX1_rateOver_91 : decode cX1_rateOver 91 = .ok (.iaload, 1) := by decide +kernel
theorem dX1_rateOver_92 : decode cX1_rateOver 92 = .ok (.ireturn, 1) := by decide +kernel
theorem dX1_rateOver_93 : decode cX1_rateOver 93 = .ok (.aload_n 0, 1) := by decide +kernel
theorem dX1_rateOver_94 : decode cX1_rateOver 94 = .ok (.iload_n 1, 1) := by decide +kernel
theorem dX1_rateOver_95 : decode cX1_rateOver 95 = .ok (.iload_n 2, 1) := by decide +kernel
theorem dX1_rateOver_96 : decode cX1_rateOver 96 = .ok (.iconst 1, 1) := by decide +kernel
theorem dX1_rateOver_97 : decode cX1_rateOver 97 = .ok (.isub, 1) := by decide +kernel
theorem dX1_rateOver_98 : decode cX1_rateOver 98 = .ok (.iload_n 2, 1) := by decide +kernel
theorem dX1_rateOver_99 : decode cX1_rateOver 99 = .ok (.invokevirtual 28, 3) := by decide +kernel
theorem dX1_rateOver_102 : decode cX1_rateOver 102 = .ok (.ireturn, 1) := by decide +kernel
theorem dX1_rateOverBond_0 : decode cX1_rateOverBond 0 = .ok (.iload_n 1, 1) := by decide +kernel
theorem dX1_rateOverBond_1 : decode cX1_rateOverBond 1 = .ok (.iload_n 2, 1) := by decide +kernel
theorem dX1_rateOverBond_2 : decode cX1_rateOverBond 2 = .ok (.ishr, 1) := by decide +kernel
theorem dX1_rateOverBond_3 : decode cX1_rateOverBond 3 = .ok (.iconst 1, 1) := by decide +kernel
theorem dX1_rateOverBond_4 : decode cX1_rateOverBond 4 = .ok (.iand, 1) := by decide +kernel
theorem dX1_rateOverBond_5 : decode cX1_rateOverBond 5 = .ok (.iload_n 1, 1) := by decide +kernel
theorem dX1_rateOverBond_6 : decode cX1_rateOverBond 6 = .ok (.iload_n 3, 1) := by decide +kernel
theorem dX1_rateOverBond_7 : decode cX1_rateOverBond 7 = .ok (.ishr, 1) := by decide +kernel
theorem dX1_rateOverBond_8 : decode cX1_rateOverBond 8 = .ok (.iconst 1, 1) := by decide +kernel
theorem dX1_rateOverBond_9 : decode cX1_rateOverBond 9 = .ok (.iand, 1) := by decide +kernel
theorem dX1_rateOverBond_10 : decode cX1_rateOverBond 10 = .ok (.isub, 1) := by decide +kernel
theorem dX1_rateOverBond_11 : decode cX1_rateOverBond 11 = .ok (.istore 4, 2) := by decide +kernel
theorem dX1_rateOverBond_13 : decode cX1_rateOverBond 13 = .ok (.iload 4, 2) := by decide +kernel
theorem dX1_rateOverBond_15 : decode cX1_rateOverBond 15 = .ok (.ifCond .ne 5, 3) := by decide +kernel
theorem dX1_rateOverBond_18 : decode cX1_rateOverBond 18 = .ok (.iconst 0, 1) := by decide +kernel
theorem dX1_rateOverBond_19 : decode cX1_rateOverBond 19 = .ok (.ireturn, 1) := by decide +kernel
theorem dX1_rateOverBond_20 : decode cX1_rateOverBond 20 = .ok (.iload 4, 2) := by decide +kernel
theorem dX1_rateOverBond_22 : decode cX1_rateOverBond 22 = .ok (.ifCond .le 12, 3) := by decide +kernel
theorem dX1_rateOverBond_25 : decode cX1_rateOverBond 25 = .ok (.aload_n 0, 1) := by decide +kernel
theorem dX1_rateOverBond_26 : decode cX1_rateOverBond 26 = .ok (.getfield 9, 3) := by decide +kernel
theorem dX1_rateOverBond_29 : decode cX1_rateOverBond 29 = .ok (.iconst 2, 1) := by decide +kernel
theorem dX1_rateOverBond_30 : decode cX1_rateOverBond 30 = .ok (.iaload, 1) := by decide +kernel
theorem dX1_rateOverBond_31 : decode cX1_rateOverBond 31 = .ok (.goto 9, 3) := by decide +kernel
theorem dX1_rateOverBond_34 : decode cX1_rateOverBond 34 = .ok (.aload_n 0, 1) := by decide +kernel
theorem dX1_rateOverBond_35 : decode cX1_rateOverBond 35 = .ok (.getfield 9, 3) := by decide +kernel
theorem dX1_rateOverBond_38 : decode cX1_rateOverBond 38 = .ok (.iconst 3, 1) := by decide +kernel
theorem dX1_rateOverBond_39 : decode cX1_rateOverBond 39 = .ok (.iaload, 1) := by decide +kernel
theorem dX1_rateOverBond_40 : decode cX1_rateOverBond 40 = .ok (.ireturn, 1) := by decide +kernel
theorem dX1_rateBetween_0 : decode cX1_rateBetween 0 = .ok (.iconst 0, 1) := by decide +kernel
theorem dX1_rateBetween_1 : decode cX1_rateBetween 1 = .ok (.istore_n 3, 1) := by decide +kernel
theorem dX1_rateBetween_2 : decode cX1_rateBetween 2 = .ok (.iconst 0, 1) := by decide +kernel
theorem dX1_rateBetween_3 : decode cX1_rateBetween 3 = .ok (.istore 4, 2) := by decide +kernel
theorem dX1_rateBetween_5 : decode cX1_rateBetween 5 = .ok (.iload 4, 2) := by decide +kernel
theorem dX1_rateBetween_7 : decode cX1_rateBetween 7 = .ok (.aload_n 0, 1) := by decide +kernel
theorem dX1_rateBetween_8 : decode cX1_rateBetween 8 = .ok (.invokevirtual 32, 3) := by decide +kernel
theorem dX1_rateBetween_11 : decode cX1_rateBetween 11 = .ok (.if_icmp .ge 31, 3) := by decide +kernel
theorem dX1_rateBetween_14 : decode cX1_rateBetween 14 = .ok (.iload_n 1, 1) := by decide +kernel
theorem dX1_rateBetween_15 : decode cX1_rateBetween 15 = .ok (.aload_n 0, 1) := by decide +kernel
theorem dX1_rateBetween_16 : decode cX1_rateBetween 16 = .ok (.iload 4, 2) := by decide +kernel
theorem dX1_rateBetween_18 : decode cX1_rateBetween 18 = .ok (.invokevirtual 35, 3) := by decide +kernel
theorem dX1_rateBetween_21 : decode cX1_rateBetween 21 = .ok (.ixor, 1) := by decide +kernel
theorem dX1_rateBetween_22 : decode cX1_rateBetween 22 = .ok (.iload_n 2, 1) := by decide +kernel
theorem dX1_rateBetween_23 : decode cX1_rateBetween 23 = .ok (.if_icmp .ne 13, 3) := by decide +kernel
theorem dX1_rateBetween_26 : decode cX1_rateBetween 26 = .ok (.iload_n 3, 1) := by decide +kernel
theorem dX1_rateBetween_27 : decode cX1_rateBetween 27 = .ok (.aload_n 0, 1) := by decide +kernel
theorem dX1_rateBetween_28 : decode cX1_rateBetween 28 = .ok (.iload_n 1, 1) := by decide +kernel
theorem dX1_rateBetween_29 : decode cX1_rateBetween 29 = .ok (.iload 4, 2) := by decide +kernel
theorem dX1_rateBetween_31 : decode cX1_rateBetween 31 = .ok (.invokevirtual 38, 3) := by decide +kernel
theorem dX1_rateBetween_34 : decode cX1_rateBetween 34 = .ok (.iadd, 1) := by decide +kernel
theorem dX1_rateBetween_35 : decode cX1_rateBetween 35 = .ok (.istore_n 3, 1) := by decide +kernel
theorem dX1_rateBetween_36 : decode cX1_rateBetween 36 = .ok (.iinc 4 1, 3) := by decide +kernel
theorem dX1_rateBetween_39 : decode cX1_rateBetween 39 = .ok (.goto (-34), 3) := by decide +kernel
theorem dX1_rateBetween_42 : decode cX1_rateBetween 42 = .ok (.iload_n 3, 1) := by decide +kernel
theorem dX1_rateBetween_43 : decode cX1_rateBetween 43 = .ok (.ireturn, 1) := by decide +kernel
theorem dX1_rateOut_0 : decode cX1_rateOut 0 = .ok (.iconst 0, 1) := by decide +kernel
theorem dX1_rateOut_1 : decode cX1_rateOut 1 = .ok (.istore_n 2, 1) := by decide +kernel
theorem dX1_rateOut_2 : decode cX1_rateOut 2 = .ok (.iconst 0, 1) := by decide +kernel
theorem dX1_rateOut_3 : decode cX1_rateOut 3 = .ok (.istore_n 3, 1) := by decide +kernel
theorem dX1_rateOut_4 : decode cX1_rateOut 4 = .ok (.iload_n 3, 1) := by decide +kernel
theorem dX1_rateOut_5 : decode cX1_rateOut 5 = .ok (.aload_n 0, 1) := by decide +kernel
theorem dX1_rateOut_6 : decode cX1_rateOut 6 = .ok (.invokevirtual 32, 3) := by decide +kernel
theorem dX1_rateOut_9 : decode cX1_rateOut 9 = .ok (.if_icmp .ge 18, 3) := by decide +kernel
theorem dX1_rateOut_12 : decode cX1_rateOut 12 = .ok (.iload_n 2, 1) := by decide +kernel
theorem dX1_rateOut_13 : decode cX1_rateOut 13 = .ok (.aload_n 0, 1) := by decide +kernel
theorem dX1_rateOut_14 : decode cX1_rateOut 14 = .ok (.iload_n 1, 1) := by decide +kernel
theorem dX1_rateOut_15 : decode cX1_rateOut 15 = .ok (.iload_n 3, 1) := by decide +kernel
theorem dX1_rateOut_16 : decode cX1_rateOut 16 = .ok (.invokevirtual 38, 3) := by decide +kernel
theorem dX1_rateOut_19 : decode cX1_rateOut 19 = .ok (.iadd, 1) := by decide +kernel
theorem dX1_rateOut_20 : decode cX1_rateOut 20 = .ok (.istore_n 2, 1) := by decide +kernel
theorem dX1_rateOut_21 : decode cX1_rateOut 21 = .ok (.iinc 3 1, 3) := by decide +kernel
theorem dX1_rateOut_24 : decode cX1_rateOut 24 = .ok (.goto (-20), 3) := by decide +kernel
theorem dX1_rateOut_27 : decode cX1_rateOut 27 = .ok (.iload_n 2, 1) := by decide +kernel
theorem dX1_rateOut_28 : decode cX1_rateOut 28 = .ok (.ireturn, 1) := by decide +kernel
theorem dX1_targets_0 : decode cX1_targets 0 = .ok (.lconst 0, 1) := by decide +kernel
theorem dX1_targets_1 : decode cX1_targets 1 = .ok (.lstore_n 2, 1) := by decide +kernel
theorem dX1_targets_2 : decode cX1_targets 2 = .ok (.iconst 0, 1) := by decide +kernel
theorem dX1_targets_3 : decode cX1_targets 3 = .ok (.istore 4, 2) := by decide +kernel
theorem dX1_targets_5 : decode cX1_targets 5 = .ok (.iload 4, 2) := by decide +kernel
theorem dX1_targets_7 : decode cX1_targets 7 = .ok (.aload_n 0, 1) := by decide +kernel
theorem dX1_targets_8 : decode cX1_targets 8 = .ok (.invokevirtual 32, 3) := by decide +kernel
theorem dX1_targets_11 : decode cX1_targets 11 = .ok (.if_icmp .ge 32, 3) := by decide +kernel
theorem dX1_targets_14 : decode cX1_targets 14 = .ok (.aload_n 0, 1) := by decide +kernel
theorem dX1_targets_15 : decode cX1_targets 15 = .ok (.iload_n 1, 1) := by decide +kernel
theorem dX1_targets_16 : decode cX1_targets 16 = .ok (.iload 4, 2) := by decide +kernel
theorem dX1_targets_18 : decode cX1_targets 18 = .ok (.invokevirtual 38, 3) := by decide +kernel
theorem dX1_targets_21 : decode cX1_targets 21 = .ok (.ifCond .le 16, 3) := by decide +kernel
theorem dX1_targets_24 : decode cX1_targets 24 = .ok (.lload_n 2, 1) := by decide +kernel
theorem dX1_targets_25 : decode cX1_targets 25 = .ok (.lconst 1, 1) := by decide +kernel
theorem dX1_targets_26 : decode cX1_targets 26 = .ok (.iload_n 1, 1) := by decide +kernel
theorem dX1_targets_27 : decode cX1_targets 27 = .ok (.aload_n 0, 1) := by decide +kernel
theorem dX1_targets_28 : decode cX1_targets 28 = .ok (.iload 4, 2) := by decide +kernel
theorem dX1_targets_30 : decode cX1_targets 30 = .ok (.invokevirtual 35, 3) := by decide +kernel
theorem dX1_targets_33 : decode cX1_targets 33 = .ok (.ixor, 1) := by decide +kernel
theorem dX1_targets_34 : decode cX1_targets 34 = .ok (.lshl, 1) := by decide +kernel
theorem dX1_targets_35 : decode cX1_targets 35 = .ok (.lor, 1) := by decide +kernel
theorem dX1_targets_36 : decode cX1_targets 36 = .ok (.lstore_n 2, 1) := by decide +kernel
theorem dX1_targets_37 : decode cX1_targets 37 = .ok (.iinc 4 1, 3) := by decide +kernel
theorem dX1_targets_40 : decode cX1_targets 40 = .ok (.goto (-35), 3) := by decide +kernel
theorem dX1_targets_43 : decode cX1_targets 43 = .ok (.lload_n 2, 1) := by decide +kernel
theorem dX1_targets_44 : decode cX1_targets 44 = .ok (.lreturn, 1) := by decide +kernel
theorem dX1_passing_0 : decode cX1_passing 0 = .ok (.aload_n 0, 1) := by decide +kernel
theorem dX1_passing_1 : decode cX1_passing 1 = .ok (.invokevirtual 17, 3) := by decide +kernel
theorem dX1_passing_4 : decode cX1_passing 4 = .ok (.iconst 1, 1) := by decide +kernel
theorem dX1_passing_5 : decode cX1_passing 5 = .ok (.if_icmp .ne 27, 3) := by decide +kernel
theorem dX1_passing_8 : decode cX1_passing 8 = .ok (.iload_n 1, 1) := by decide +kernel
theorem dX1_passing_9 : decode cX1_passing 9 = .ok (.iconst 1, 1) := by decide +kernel
theorem dX1_passing_10 : decode cX1_passing 10 = .ok (.iand, 1) := by decide +kernel
theorem dX1_passing_11 : decode cX1_passing 11 = .ok (.ifCond .ne 12, 3) := by decide +kernel
theorem dX1_passing_14 : decode cX1_passing 14 = .ok (.aload_n 0, 1) := by decide +kernel
theorem dX1_passing_15 : decode cX1_passing 15 = .ok (.getfield 9, 3) := by decide +kernel
theorem dX1_passing_18 : decode cX1_passing 18 = .ok (.iconst 4, 1) := by decide +kernel
theorem dX1_passing_19 : decode cX1_passing 19 = .ok (.iaload, 1) := by decide +kernel
theorem dX1_passing_20 : decode cX1_passing 20 = .ok (.goto 11, 3) := by decide +kernel
theorem dX1_passing_23 : decode cX1_passing 23 = .ok (.aload_n 0, 1) := by decide +kernel
theorem dX1_passing_24 : decode cX1_passing 24 = .ok (.getfield 9, 3) := by decide +kernel
theorem dX1_passing_27 : decode cX1_passing 27 = .ok (.bipush 7, 2) := by decide +kernel
theorem dX1_passing_29 : decode cX1_passing 29 = .ok (.iaload, 1) := by decide +kernel
theorem dX1_passing_30 : decode cX1_passing 30 = .ok (.ineg, 1) := by decide +kernel
theorem dX1_passing_31 : decode cX1_passing 31 = .ok (.ireturn, 1) := by decide +kernel
theorem dX1_passing_32 : decode cX1_passing 32 = .ok (.aload_n 0, 1) := by decide +kernel
theorem dX1_passing_33 : decode cX1_passing 33 = .ok (.iload_n 1, 1) := by decide +kernel
theorem dX1_passing_34 : decode cX1_passing 34 = .ok (.iconst 0, 1) := by decide +kernel
theorem dX1_passing_35 : decode cX1_passing 35 = .ok (.iconst 1, 1) := by decide +kernel
theorem dX1_passing_36 : decode cX1_passing 36 = .ok (.invokevirtual 28, 3) := by decide +kernel
theorem dX1_passing_39 : decode cX1_passing 39 = .ok (.istore_n 2, 1) := by decide +kernel
theorem dX1_passing_40 : decode cX1_passing 40 = .ok (.iload_n 1, 1) := by decide +kernel
theorem dX1_passing_41 : decode cX1_passing 41 = .ok (.iconst 1, 1) := by decide +kernel
theorem dX1_passing_42 : decode cX1_passing 42 = .ok (.iand, 1) := by decide +kernel
theorem dX1_passing_43 : decode cX1_passing 43 = .ok (.iconst 1, 1) := by decide +kernel
theorem dX1_passing_44 : decode cX1_passing 44 = .ok (.if_icmp .ne 7, 3) := by decide +kernel
theorem dX1_passing_47 : decode cX1_passing 47 = .ok (.iload_n 2, 1) := by decide +kernel
theorem dX1_passing_48 : decode cX1_passing 48 = .ok (.goto 5, 3) := by decide +kernel
theorem dX1_passing_51 : decode cX1_passing 51 = .ok (.iload_n 2, 1) := by decide +kernel
theorem dX1_passing_52 : decode cX1_passing 52 = .ok (.ineg, 1) := by decide +kernel
theorem dX1_passing_53 : decode cX1_passing 53 = .ok (.ireturn, 1) := by decide +kernel
theorem dX2_init_0 : decode cX2_init 0 = .ok (.aload_n 0, 1) := by decide +kernel
theorem dX2_init_1 : decode cX2_init 1 = .ok (.invokespecial 3, 3) := by decide +kernel
theorem dX2_init_4 : decode cX2_init 4 = .ok (.aload_n 0, 1) := by decide +kernel
theorem dX2_init_5 : decode cX2_init 5 = .ok (.sipush 256, 3) := by decide +kernel
theorem dX2_init_8 : decode cX2_init 8 = .ok (.newarray .long, 2) := by decide +kernel
theorem dX2_init_10 : decode cX2_init 10 = .ok (.putfield 11, 3) := by decide +kernel
theorem dX2_init_13 : decode cX2_init 13 = .ok (.aload_n 0, 1) := by decide +kernel
theorem dX2_init_14 : decode cX2_init 14 = .ok (.bipush 12, 2) := by decide +kernel
theorem dX2_init_16 : decode cX2_init 16 = .ok (.newarray .long, 2) := by decide +kernel
theorem dX2_init_18 : decode cX2_init 18 = .ok (.putfield 15, 3) := by decide +kernel
theorem dX2_init_21 : decode cX2_init 21 = .ok (.aload_n 0, 1) := by decide +kernel
theorem dX2_init_22 : decode cX2_init 22 = .ok (.bipush 12, 2) := by decide +kernel
theorem dX2_init_24 : decode cX2_init 24 = .ok (.newarray .long, 2) := by decide +kernel
theorem dX2_init_26 : decode cX2_init 26 = .ok (.putfield 18, 3) := by decide +kernel
theorem dX2_init_29 : decode cX2_init 29 = .ok (.aload_n 0, 1) := by decide +kernel
theorem dX2_init_30 : decode cX2_init 30 = .ok (.iconst 4, 1) := by decide +kernel
theorem dX2_init_31 : decode cX2_init 31 = .ok (.newarray .int, 2) := by decide +kernel
theorem dX2_init_33 : decode cX2_init 33 = .ok (.putfield 21, 3) := by decide +kernel
theorem dX2_init_36 : decode cX2_init 36 = .ok (.aload_n 0, 1) := by decide +kernel
theorem dX2_init_37 : decode cX2_init 37 = .ok (.iconst 4, 1) := by decide +kernel
theorem dX2_init_38 : decode cX2_init 38 = .ok (.newarray .int, 2) := by decide +kernel
theorem dX2_init_40 : decode cX2_init 40 = .ok (.putfield 25, 3) := by decide +kernel
theorem dX2_init_43 : decode cX2_init 43 = .ok (.aload_n 0, 1) := by decide +kernel
theorem dX2_init_44 : decode cX2_init 44 = .ok (.bipush 16, 2) := by decide +kernel
theorem dX2_init_46 : decode cX2_init 46 = .ok (.newarray .long, 2) := by decide +kernel
theorem dX2_init_48 : decode cX2_init 48 = .ok (.putfield 28, 3) := by decide +kernel
theorem dX2_init_51 : decode cX2_init 51 = .ok (.return_, 1) := by decide +kernel
theorem dX2_isRim_0 : decode cX2_isRim 0 = .ok (.iload_n 0, 1) := by decide +kernel
theorem dX2_isRim_1 : decode cX2_isRim 1 = .ok (.ifCond .lt 14, 3) := by decide +kernel
theorem dX2_isRim_4 : decode cX2_isRim 4 = .ok (.iload_n 0, 1) := by decide +kernel
theorem dX2_isRim_5 : decode cX2_isRim 5 = .ok (.sipush 256, 3) := by decide +kernel
theorem dX2_isRim_8 : decode cX2_isRim 8 = .ok (.if_icmp .ge 7, 3) := by decide +kernel
theorem dX2_isRim_11 : decode cX2_isRim 11 = .ok (.iconst 1, 1) := by decide +kernel
theorem dX2_isRim_12 : decode cX2_isRim 12 = .ok (.goto 4, 3) := by decide +kernel
theorem dX2_isRim_15 : decode cX2_isRim 15 = .ok (.iconst 0, 1) := by decide +kernel
theorem dX2_isRim_16 : decode cX2_isRim 16 = .ok (.ireturn, 1) := by decide +kernel
theorem dX2_areWalkers_0 : decode cX2_areWalkers 0 = .ok (.iload_n 0, 1) := by decide +kernel
theorem dX2_areWalkers_1 : decode cX2_areWalkers 1 = .ok (.invokestatic 31, 3) := by decide +kernel
theorem dX2_areWalkers_4 : decode cX2_areWalkers 4 = .ok (.istore_n 1, 1) := by decide +kernel
theorem dX2_areWalkers_5 : decode cX2_areWalkers 5 = .ok (.iload_n 0, 1) := by decide +kernel
theorem dX2_areWalkers_6 : decode cX2_areWalkers 6 = .ok (.ifCond .lt 24, 3) := by decide +kernel
theorem dX2_areWalkers_9 : decode cX2_areWalkers 9 = .ok (.iload_n 0, 1) := by decide +kernel
theorem dX2_areWalkers_10 : decode cX2_areWalkers 10 = .ok (.sipush 4096, 3) := by decide +kernel
theorem dX2_areWalkers_13 : decode cX2_areWalkers 13 = .ok (.if_icmp .ge 17, 3) := by decide +kernel
theorem dX2_areWalkers_16 : decode cX2_areWalkers 16 = .ok (.iload_n 1, 1) := by decide +kernel
theorem dX2_areWalkers_17 : decode cX2_areWalkers 17 = .ok (.iconst 1, 1) := by decide +kernel
theorem dX2_areWalkers_18 : decode cX2_areWalkers 18 = .ok (.if_icmp .lt 12, 3) := by decide +kernel
theorem dX2_areWalkers_21 : decode cX2_areWalkers 21 = .ok (.iload_n 1, 1) := by decide +kernel
theorem dX2_areWalkers_22 : decode cX2_areWalkers 22 = .ok (.iconst 4, 1) := by decide +kernel
theorem dX2_areWalkers_23 : decode cX2_areWalkers 23 = .ok (.if_icmp .gt 7, 3) := by decide +kernel
theorem dX2_areWalkers_26 : decode cX2_areWalkers 26 = .ok (.iconst 1, 1) := by decide +kernel
theorem dX2_areWalkers_27 : decode cX2_areWalkers 27 = .ok (.goto 4, 3) := by decide +kernel
theorem dX2_areWalkers_30 : decode cX2_areWalkers 30 = .ok (.iconst 0, 1) := by decide +kernel
theorem dX2_areWalkers_31 : decode cX2_areWalkers 31 = .ok (.ireturn, 1) := by decide +kernel
theorem dX2_hopsBetween_0 : decode cX2_hopsBetween 0 = .ok (.iload_n 0, 1) := by decide +kernel
theorem dX2_hopsBetween_1 : decode cX2_hopsBetween 1 = .ok (.invokestatic 31, 3) := by decide +kernel
theorem dX2_hopsBetween_4 : decode cX2_hopsBetween 4 = .ok (.iload_n 1, 1) := by decide +kernel
theorem dX2_hopsBetween_5 : decode cX2_hopsBetween 5 = .ok (.invokestatic 31, 3) := by decide +kernel
theorem dX2_hopsBetween_8 : decode cX2_hopsBetween 8 = .ok (.if_icmp .eq 6, 3) := by decide +kernel
theorem dX2_hopsBetween_11 : decode cX2_hopsBetween 11 = .ok (.bipush (-4), 2) := by decide +kernel
theorem dX2_hopsBetween_13 : decode cX2_hopsBetween 13 = .ok (.ireturn, 1) := by decide +kernel
theorem dX2_hopsBetween_14 : decode cX2_hopsBetween 14 = .ok (.iconst 0, 1) := by decide +kernel
theorem dX2_hopsBetween_15 : decode cX2_hopsBetween 15 = .ok (.istore_n 2, 1) := by decide +kernel
theorem dX2_hopsBetween_16 : decode cX2_hopsBetween 16 = .ok (.iload_n 0, 1) := by decide +kernel
theorem dX2_hopsBetween_17 : decode cX2_hopsBetween 17 = .ok (.istore_n 3, 1) := by decide +kernel
theorem dX2_hopsBetween_18 : decode cX2_hopsBetween 18 = .ok (.iload_n 1, 1) := by decide +kernel
theorem dX2_hopsBetween_19 : decode cX2_hopsBetween 19 = .ok (.istore 4, 2) := by decide +kernel
theorem dX2_hopsBetween_21 : decode cX2_hopsBetween 21 = .ok (.iconst 0, 1) := by decide +kernel
theorem dX2_hopsBetween_22 : decode cX2_hopsBetween 22 = .ok (.istore 5, 2) := by decide +kernel
theorem dX2_hopsBetween_24 : decode cX2_hopsBetween 24 = .ok (.iload 5, 2) := by decide +kernel
theorem dX2_hopsBetween_26 : decode cX2_hopsBetween 26 = .ok (.bipush 8, 2) := by decide +kernel
theorem dX2_hopsBetween_28 : decode cX2_hopsBetween 28 = .ok (.if_icmp .ge 53, 3) := by decide +kernel
theorem dX2_hopsBetween_31 : decode cX2_hopsBetween 31 = .ok (.iload_n 3, 1) := by decide +kernel
theorem dX2_hopsBetween_32 : decode cX2_hopsBetween 32 = .ok (.ifCond .eq 49, 3) := by decide +kernel
theorem dX2_hopsBetween_35 : decode cX2_hopsBetween 35 = .ok (.iload 4, 2) := by decide +kernel
theorem dX2_hopsBetween_37 : decode cX2_hopsBetween 37 = .ok (.invokestatic 37, 3) := by decide +kernel
theorem dX2_hopsBetween_40 : decode cX2_hopsBetween 40 = .ok (.iload_n 3, 1) := by decide +kernel
theorem dX2_hopsBetween_41 : decode cX2_hopsBetween 41 = .ok (.invokestatic 37, 3) := by decide +kernel
theorem dX2_hopsBetween_44 : decode cX2_hopsBetween 44 = .ok (.isub, 1) := by decide +kernel
theorem dX2_hopsBetween_45 : decode cX2_hopsBetween 45 = .ok (.istore 6, 2) := by decide +kernel
theorem dX2_hopsBetween_47 : decode cX2_hopsBetween 47 = .ok (.iload 6, 2) := by decide +kernel
theorem dX2_hopsBetween_49 : decode cX2_hopsBetween 49 = .ok (.ifCond .ge 6, 3) := by decide +kernel
theorem dX2_hopsBetween_52 : decode cX2_hopsBetween 52 = .ok (.bipush (-4), 2) := by decide +kernel
theorem dX2_hopsBetween_54 : decode cX2_hopsBetween 54 = .ok (.ireturn, 1) := by decide +kernel
theorem dX2_hopsBetween_55 : decode cX2_hopsBetween 55 = .ok (.iload_n 2, 1) := by decide +kernel
theorem dX2_hopsBetween_56 : decode cX2_hopsBetween 56 = .ok (.iload 6, 2) := by decide +kernel
theorem dX2_hopsBetween_58 : decode cX2_hopsBetween 58 = .ok (.iadd, 1) := by decide +kernel
theorem dX2_hopsBetween_59 : decode cX2_hopsBetween 59 = .ok (.istore_n 2, 1) := by decide +kernel
theorem dX2_hopsBetween_60 : decode cX2_hopsBetween 60 = .ok (.iload_n 3, 1) := by decide +kernel
theorem dX2_hopsBetween_61 : decode cX2_hopsBetween 61 = .ok (.iload_n 3, 1) := by decide +kernel
theorem dX2_hopsBetween_62 : decode cX2_hopsBetween 62 = .ok (.iconst 1, 1) := by decide +kernel
theorem dX2_hopsBetween_63 : decode cX2_hopsBetween 63 = .ok (.isub, 1) := by decide +kernel
theorem dX2_hopsBetween_64 : decode cX2_hopsBetween 64 = .ok (.iand, 1) := by decide +kernel
theorem dX2_hopsBetween_65 : decode cX2_hopsBetween 65 = .ok (.istore_n 3, 1) := by decide +kernel
theorem dX2_hopsBetween_66 : decode cX2_hopsBetween 66 = .ok (.iload 4, 2) := by decide +kernel
theorem dX2_hopsBetween_68 : decode cX2_hopsBetween 68 = .ok (.iload 4, 2) := by decide +kernel
theorem dX2_hopsBetween_70 : decode cX2_hopsBetween 70 = .ok (.iconst 1, 1) := by decide +kernel
theorem dX2_hopsBetween_71 : decode cX2_hopsBetween 71 = .ok (.isub, 1) := by decide +kernel
theorem dX2_hopsBetween_72 : decode cX2_hopsBetween 72 = .ok (.iand, 1) := by decide +kernel
theorem dX2_hopsBetween_73 : decode cX2_hopsBetween 73 = .ok (.istore 4, 2) := by decide +kernel
theorem dX2_hopsBetween_75 : decode cX2_hopsBetween 75 = .ok (.iinc 5 1, 3) := by decide +kernel
theorem dX2_hopsBetween_78 : decode cX2_hopsBetween 78 = .ok (.goto (-54), 3) := by decide +kernel
theorem dX2_hopsBetween_81 : decode cX2_hopsBetween 81 = .ok (.iload_n 2, 1) := by decide +kernel
theorem dX2_hopsBetween_82 : decode cX2_hopsBetween 82 = .ok (.ireturn, 1) := by decide +kernel
theorem dX2_ordersBetween_0 : decode cX2_ordersBetween 0 = .ok (.iload_n 1, 1) := by decide +kernel
theorem dX2_ordersBetween_1 : decode cX2_ordersBetween 1 = .ok (.invokestatic 40, 3) := by decide +kernel
theorem dX2_ordersBetween_4 : decode cX2_ordersBetween 4 = .ok (.ifCond .eq 15, 3) := by decide +kernel
theorem dX2_ordersBetween_7 : decode cX2_ordersBetween 7 = .ok (.iload_n 2, 1) := by decide +kernel
theorem dX2_ordersBetween_8 : decode cX2_ordersBetween 8 = .ok (.invokestatic 40, 3) := by decide +kernel
theorem dX2_ordersBetween_11 : decode cX2_ordersBetween 11 = .ok (.ifCond .eq 8, 3) := by decide +kernel
theorem dX2_ordersBetween_14 : decode cX2_ordersBetween 14 = .ok (.iload_n 1, 1) := by decide +kernel
theorem dX2_ordersBetween_15 : decode cX2_ordersBetween 15 = .ok (.iload_n 2, 1) := by decide +kernel
theorem dX2_ordersBetween_16 : decode cX2_ordersBetween 16 = .ok (.if_icmp .le 5, 3) := by decide +kernel
theorem dX2_ordersBetween_19 : decode cX2_ordersBetween 19 = .ok (.lconst 0, 1) := by decide +kernel
theorem dX2_ordersBetween_20 : decode cX2_ordersBetween 20 = .ok (.lreturn, 1) := by decide +kernel
theorem dX2_ordersBetween_21 : decode cX2_ordersBetween 21 = .ok (.iload_n 1, 1) := by decide +kernel
theorem dX2_ordersBetween_22 : decode cX2_ordersBetween 22 = .ok (.istore_n 3, 1) := by decide +kernel
theorem dX2_ordersBetween_23 : decode cX2_ordersBetween 23 = .ok (.iload_n 3, 1) := by decide +kernel
theorem dX2_ordersBetween_24 : decode cX2_ordersBetween 24 = .ok (.iload_n 2, 1) := by decide +kernel
theorem dX2_ordersBetween_25 : decode cX2_ordersBetween 25 = .ok (.if_icmp .gt 25, 3) := by decide +kernel
theorem dX2_ordersBetween_28 : decode cX2_ordersBetween 28 = .ok (.iload_n 3, 1) := by decide +kernel
theorem dX2_ordersBetween_29 : decode cX2_ordersBetween 29 = .ok (.aload_n 0, 1) := by decide +kernel
theorem dX2_ordersBetween_30 : decode cX2_ordersBetween 30 = .ok (.getfield 11, 3) := by decide +kernel
theorem dX2_ordersBetween_33 : decode cX2_ordersBetween 33 = .ok (.arraylength, 1) := by decide +kernel
theorem dX2_ordersBetween_34 : decode cX2_ordersBetween 34 = .ok (.if_icmp .ge 16, 3) := by decide +kernel
theorem dX2_ordersBetween_37 : decode cX2_ordersBetween 37 = .ok (.aload_n 0, 1) := by decide +kernel
theorem dX2_ordersBetween_38 : decode cX2_ordersBetween 38 = .ok (.getfield 11, 3) := by decide +kernel
theorem dX2_ordersBetween_41 : decode cX2_ordersBetween 41 = .ok (.iload_n 3, 1) := by decide +kernel
theorem dX2_ordersBetween_42 : decode cX2_ordersBetween 42 = .ok (.lconst 0, 1) := by decide +kernel
theorem dX2_ordersBetween_43 : decode cX2_ordersBetween 43 = .ok (.lastore, 1) := by decide +kernel
theorem dX2_ordersBetween_44 : decode cX2_ordersBetween 44 = .ok (.iinc 3 1, 3) := by decide +kernel
theorem dX2_ordersBetween_47 : decode cX2_ordersBetween 47 = .ok (.goto (-24), 3) := by decide +kernel
theorem dX2_ordersBetween_50 : decode cX2_ordersBetween 50 = .ok (.aload_n 0, 1) := by decide +kernel
theorem dX2_ordersBetween_51 : decode cX2_ordersBetween 51 = .ok (.getfield 11, 3) := by decide +kernel
theorem dX2_ordersBetween_54 : decode cX2_ordersBetween 54 = .ok (.iload_n 1, 1) := by decide +kernel
theorem dX2_ordersBetween_55 : decode cX2_ordersBetween 55 = .ok (.lconst 1, 1) := by decide +kernel
theorem dX2_ordersBetween_56 : decode cX2_ordersBetween 56 = .ok (.lastore, 1) := by decide +kernel
theorem dX2_ordersBetween_57 : decode cX2_ordersBetween 57 = .ok (.iload_n 1, 1) := by decide +kernel
theorem dX2_ordersBetween_58 : decode cX2_ordersBetween 58 = .ok (.istore_n 3, 1) := by decide +kernel
theorem dX2_ordersBetween_59 : decode cX2_ordersBetween 59 = .ok (.iload_n 3, 1) := by decide +kernel
theorem dX2_ordersBetween_60 : decode cX2_ordersBetween 60 = .ok (.iload_n 2, 1) := by decide +kernel
theorem dX2_ordersBetween_61 : decode cX2_ordersBetween 61 = .ok (.if_icmp .ge 35, 3) := by decide +kernel
theorem dX2_ordersBetween_64 : decode cX2_ordersBetween 64 = .ok (.iload_n 3, 1) := by decide +kernel
theorem dX2_ordersBetween_65 : decode cX2_ordersBetween 65 = .ok (.aload_n 0, 1) := by decide +kernel
theorem dX2_ordersBetween_66 : decode cX2_ordersBetween 66 = .ok (.getfield 11, 3) := by decide +kernel
theorem dX2_ordersBetween_69 : decode cX2_ordersBetween 69 = .ok (.arraylength, 1) := by decide +kernel
theorem dX2_ordersBetween_70 : decode cX2_ordersBetween 70 = .ok (.if_icmp .ge 26, 3) := by decide +kernel
theorem dX2_ordersBetween_73 : decode cX2_ordersBetween 73 = .ok (.aload_n 0, 1) := by decide +kernel
theorem dX2_ordersBetween_74 : decode cX2_ordersBetween 74 = .ok (.getfield 11, 3) := by decide +kernel
theorem dX2_ordersBetween_77 : decode cX2_ordersBetween 77 = .ok (.iload_n 3, 1) := by decide +kernel
theorem dX2_ordersBetween_78 : decode cX2_ordersBetween 78 = .ok (.laload, 1) := by decide +kernel
theorem dX2_ordersBetween_79 : decode cX2_ordersBetween 79 = .ok (.lconst 0, 1) := by decide +kernel
theorem dX2_ordersBetween_80 : decode cX2_ordersBetween 80 = .ok (.lcmp, 1) := by decide +kernel
theorem dX2_ordersBetween_81 : decode cX2_ordersBetween 81 = .ok (.ifCond .eq 9, 3) := by decide +kernel
theorem dX2_ordersBetween_84 : decode cX2_ordersBetween 84 = .ok (.aload_n 0, 1) := by decide +kernel
theorem dX2_ordersBetween_85 : decode cX2_ordersBetween 85 = .ok (.iload_n 3, 1) := by decide +kernel
theorem dX2_ordersBetween_86 : decode cX2_ordersBetween 86 = .ok (.iload_n 2, 1) := by decide +kernel
theorem dX2_ordersBetween_87 : decode cX2_ordersBetween 87 = .ok (.invokevirtual 44, 3) := by decide +kernel
theorem dX2_ordersBetween_90 : decode cX2_ordersBetween 90 = .ok (.iinc 3 1, 3) := by decide +kernel
theorem dX2_ordersBetween_93 : decode cX2_ordersBetween 93 = .ok (.goto (-34), 3) := by decide +kernel
theorem dX2_ordersBetween_96 : decode cX2_ordersBetween 96 = .ok (.aload_n 0, 1) := by decide +kernel
theorem dX2_ordersBetween_97 : decode cX2_ordersBetween 97 = .ok (.getfield 11, 3) := by decide +kernel
theorem dX2_ordersBetween_100 : decode cX2_ordersBetween 100 = .ok (.iload_n 2, 1) := by decide +kernel
theorem dX2_ordersBetween_101 : decode cX2_ordersBetween 101 = .ok (.laload, 1) := by decide +kernel
theorem dX2_ordersBetween_102 : decode cX2_ordersBetween 102 = .ok (.lreturn, 1) := by decide +kernel
theorem dX2_passOn_0 : decode cX2_passOn 0 = .ok (.iconst 0, 1) := by decide +kernel
theorem dX2_passOn_1 : decode cX2_passOn 1 = .ok (.istore_n 3, 1) := by decide +kernel
theorem dX2_passOn_2 : decode cX2_passOn 2 = .ok (.iload_n 3, 1) := by decide +kernel
theorem dX2_passOn_3 : decode cX2_passOn 3 = .ok (.iconst 1, 1) := by decide +kernel
theorem dX2_passOn_4 : decode cX2_passOn 4 = .ok (.iadd, 1) := by decide +kernel
theorem dX2_passOn_5 : decode cX2_passOn 5 = .ok (.bipush 8, 2) := by decide +kernel
theorem dX2_passOn_7 : decode cX2_passOn 7 = .ok (.if_icmp .ge 69, 3) := by decide +kernel
theorem dX2_passOn_10 : decode cX2_passOn 10 = .ok (.iload_n 1, 1) := by decide +kernel
theorem dX2_passOn_11 : decode cX2_passOn 11 = .ok (.iconst 1, 1) := by decide +kernel
theorem dX2_passOn_12 : decode cX2_passOn 12 = .ok (.iload_n 3, 1) := by decide +kernel
theorem dX2_passOn_13 : decode cX2_passOn 13 = .ok (.ishl, 1) := by decide +kernel
theorem dX2_passOn_14 : decode cX2_passOn 14 = .ok (.iadd, 1) := by decide +kernel
theorem dX2_passOn_15 : decode cX2_passOn 15 = .ok (.istore 4, 2) := by decide +kernel
theorem dX2_passOn_17 : decode cX2_passOn 17 = .ok (.iload_n 1, 1) := by decide +kernel
theorem dX2_passOn_18 : decode cX2_passOn 18 = .ok (.iload_n 3, 1) := by decide +kernel
theorem dX2_passOn_19 : decode cX2_passOn 19 = .ok (.ishr, 1) := by decide +kernel
theorem dX2_passOn_20 : decode cX2_passOn 20 = .ok (.iconst 3, 1) := by decide +kernel
theorem dX2_passOn_21 : decode cX2_passOn 21 = .ok (.iand, 1) := by decide +kernel
theorem dX2_passOn_22 : decode cX2_passOn 22 = .ok (.iconst 1, 1) := by decide +kernel
theorem dX2_passOn_23 : decode cX2_passOn 23 = .ok (.if_icmp .ne 7, 3) := by decide +kernel
theorem dX2_passOn_26 : decode cX2_passOn 26 = .ok (.iconst 1, 1) := by decide +kernel
theorem dX2_passOn_27 : decode cX2_passOn 27 = .ok (.goto 4, 3) := by decide +kernel
theorem dX2_passOn_30 : decode cX2_passOn 30 = .ok (.iconst 0, 1) := by decide +kernel
theorem dX2_passOn_31 : decode cX2_passOn 31 = .ok (.istore 5, 2) := by decide +kernel
theorem dX2_passOn_33 : decode cX2_passOn 33 = .ok (.iload 5, 2) := by decide +kernel
theorem dX2_passOn_35 : decode cX2_passOn 35 = .ok (.ifCond .eq 35, 3) := by decide +kernel
theorem dX2_passOn_38 : decode cX2_passOn 38 = .ok (.iload 4, 2) := by decide +kernel
theorem dX2_passOn_40 : decode cX2_passOn 40 = .ok (.iload_n 2, 1) := by decide +kernel
theorem dX2_passOn_41 : decode cX2_passOn 41 = .ok (.if_icmp .gt 29, 3) := by decide +kernel
theorem dX2_passOn_44 : decode cX2_passOn 44 = .ok (.iload 4, 2) := by decide +kernel
theorem dX2_passOn_46 : decode cX2_passOn 46 = .ok (.aload_n 0, 1) := by decide +kernel
theorem dX2_passOn_47 : decode cX2_passOn 47 = .ok (.getfield 11, 3) := by decide +kernel
theorem dX2_passOn_50 : decode cX2_passOn 50 = .ok (.arraylength, 1) := by decide +kernel
theorem dX2_passOn_51 : decode cX2_passOn 51 = .ok (.if_icmp .ge 19, 3) := by decide +kernel
theorem dX2_passOn_54 : decode cX2_passOn 54 = .ok (.aload_n 0, 1) := by decide +kernel
theorem dX2_passOn_55 : decode cX2_passOn 55 = .ok (.getfield 11, 3) := by decide +kernel
theorem dX2_passOn_58 : decode cX2_passOn 58 = .ok (.iload 4, 2) := by decide +kernel
theorem dX2_passOn_60 : decode cX2_passOn 60 = .ok (.dup2, 1) := by decide +kernel
theorem dX2_passOn_61 : decode cX2_passOn 61 = .ok (.laload, 1) := by decide +kernel
theorem dX2_passOn_62 : decode cX2_passOn 62 = .ok (.aload_n 0, 1) := by decide +kernel
theorem dX2_passOn_63 : decode cX2_passOn 63 = .ok (.getfield 11, 3) := by decide +kernel
theorem dX2_passOn_66 : decode cX2_passOn 66 = .ok (.iload_n 1, 1) := by decide +kernel
theorem dX2_passOn_67 : decode cX2_passOn 67 = .ok (.laload, 1) := by decide +kernel
theorem dX2_passOn_68 : decode cX2_passOn 68 = .ok (.ladd, 1) := by decide +kernel
theorem dX2_passOn_69 : decode cX2_passOn 69 = .ok (.lastore, 1) := by decide +kernel
theorem dX2_passOn_70 : decode cX2_passOn 70 = .ok (.iinc 3 1, 3) := by decide +kernel
theorem dX2_passOn_73 : decode cX2_passOn 73 = .ok (.goto (-71), 3) := by decide +kernel
theorem dX2_passOn_76 : decode cX2_passOn 76 = .ok (.return_, 1) := by decide +kernel
theorem dX2_waysBetween_0 : decode cX2_waysBetween 0 = .ok (.iload_n 1, 1) := by decide +kernel
theorem dX2_waysBetween_1 : decode cX2_waysBetween 1 = .ok (.invokestatic 31, 3) := by decide +kernel
theorem dX2_waysBetween_4 : decode cX2_waysBetween 4 = .ok (.istore 4, 2) := by decide +kernel
theorem dX2_waysBetween_6 : decode cX2_waysBetween 6 = .ok (.iload 4, 2) := by decide +kernel
theorem dX2_waysBetween_8 : decode cX2_waysBetween 8 = .ok (.iconst 4, 1) := by decide +kernel
theorem dX2_waysBetween_9 : decode cX2_waysBetween 9 = .ok (.if_icmp .gt 12, 3) := by decide +kernel
theorem dX2_waysBetween_12 : decode cX2_waysBetween 12 = .ok (.iload 4, 2) := by decide +kernel
theorem dX2_waysBetween_14 : decode cX2_waysBetween 14 = .ok (.iload_n 2, 1) := by decide +kernel
theorem dX2_waysBetween_15 : decode cX2_waysBetween 15 = .ok (.invokestatic 31, 3) := by decide +kernel
theorem dX2_waysBetween_18 : decode cX2_waysBetween 18 = .ok (.if_icmp .eq 5, 3) := by decide +kernel
theorem dX2_waysBetween_21 : decode cX2_waysBetween 21 = .ok (.lconst 0, 1) := by decide +kernel
theorem dX2_waysBetween_22 : decode cX2_waysBetween 22 = .ok (.lreturn, 1) := by decide +kernel
theorem dX2_waysBetween_23 : decode cX2_waysBetween 23 = .ok (.iload_n 1, 1) := by decide +kernel
theorem dX2_waysBetween_24 : decode cX2_waysBetween 24 = .ok (.iconst 0, 1) := by decide +kernel
theorem dX2_waysBetween_25 : decode cX2_waysBetween 25 = .ok (.aload_n 0, 1) := by decide +kernel
theorem dX2_waysBetween_26 : decode cX2_waysBetween 26 = .ok (.getfield 21, 3) := by decide +kernel
theorem dX2_waysBetween_29 : decode cX2_waysBetween 29 = .ok (.invokestatic 48, 3) := by decide +kernel
theorem dX2_waysBetween_32 : decode cX2_waysBetween 32 = .ok (.iload_n 2, 1) := by decide +kernel
theorem dX2_waysBetween_33 : decode cX2_waysBetween 33 = .ok (.iload_n 3, 1) := by decide +kernel
theorem dX2_waysBetween_34 : decode cX2_waysBetween 34 = .ok (.iconst 1, 1) := by decide +kernel
theorem dX2_waysBetween_35 : decode cX2_waysBetween 35 = .ok (.iand, 1) := by decide +kernel
theorem dX2_waysBetween_36 : decode cX2_waysBetween 36 = .ok (.aload_n 0, 1) := by decide +kernel
theorem dX2_waysBetween_37 : decode cX2_waysBetween 37 = .ok (.getfield 25, 3) := by decide +kernel
theorem dX2_waysBetween_40 : decode cX2_waysBetween 40 = .ok (.invokestatic 48, 3) := by decide +kernel
theorem dX2_waysBetween_43 : decode cX2_waysBetween 43 = .ok (.iconst 0, 1) := by decide +kernel
theorem dX2_waysBetween_44 : decode cX2_waysBetween 44 = .ok (.istore 5, 2) := by decide +kernel
theorem dX2_waysBetween_46 : decode cX2_waysBetween 46 = .ok (.iload 5, 2) := by decide +kernel
theorem dX2_waysBetween_48 : decode cX2_waysBetween 48 = .ok (.iload 4, 2) := by decide +kernel
theorem dX2_waysBetween_50 : decode cX2_waysBetween 50 = .ok (.if_icmp .ge 81, 3) := by decide +kernel
theorem dX2_waysBetween_53 : decode cX2_waysBetween 53 = .ok (.iload 5, 2) := by decide +kernel
theorem dX2_waysBetween_55 : decode cX2_waysBetween 55 = .ok (.aload_n 0, 1) := by decide +kernel
theorem dX2_waysBetween_56 : decode cX2_waysBetween 56 = .ok (.getfield 21, 3) := by decide +kernel
theorem dX2_waysBetween_59 : decode cX2_waysBetween 59 = .ok (.arraylength, 1) := by decide +kernel
theorem dX2_waysBetween_60 : decode cX2_waysBetween 60 = .ok (.if_icmp .ge 71, 3) := by decide +kernel
theorem dX2_waysBetween_63 : decode cX2_waysBetween 63 = .ok (.aload_n 0, 1) := by decide +kernel
theorem dX2_waysBetween_64 : decode cX2_waysBetween 64 = .ok (.aload_n 0, 1) := by decide +kernel
theorem dX2_waysBetween_65 : decode cX2_waysBetween 65 = .ok (.getfield 21, 3) := by decide +kernel
theorem dX2_waysBetween_68 : decode cX2_waysBetween 68 = .ok (.iload 5, 2) := by decide +kernel
theorem dX2_waysBetween_70 : decode cX2_waysBetween 70 = .ok (.iaload, 1) := by decide +kernel
theorem dX2_waysBetween_71 : decode cX2_waysBetween 71 = .ok (.iload_n 3, 1) := by decide +kernel
theorem dX2_waysBetween_72 : decode cX2_waysBetween 72 = .ok (.invokevirtual 52, 3) := by decide +kernel
theorem dX2_waysBetween_75 : decode cX2_waysBetween 75 = .ok (.iconst 0, 1) := by decide +kernel
theorem dX2_waysBetween_76 : decode cX2_waysBetween 76 = .ok (.istore 6, 2) := by decide +kernel
theorem dX2_waysBetween_78 : decode cX2_waysBetween 78 = .ok (.iload 6, 2) := by decide +kernel
theorem dX2_waysBetween_80 : decode cX2_waysBetween 80 = .ok (.iload 4, 2) := by decide +kernel
theorem dX2_waysBetween_82 : decode cX2_waysBetween 82 = .ok (.if_icmp .ge 43, 3) := by decide +kernel
theorem dX2_waysBetween_85 : decode cX2_waysBetween 85 = .ok (.iload 6, 2) := by decide +kernel
theorem dX2_waysBetween_87 : decode cX2_waysBetween 87 = .ok (.aload_n 0, 1) := by decide +kernel
theorem dX2_waysBetween_88 : decode cX2_waysBetween 88 = .ok (.getfield 25, 3) := by decide +kernel
theorem dX2_waysBetween_91 : decode cX2_waysBetween 91 = .ok (.arraylength, 1) := by decide +kernel
theorem dX2_waysBetween_92 : decode cX2_waysBetween 92 = .ok (.if_icmp .ge 33, 3) := by decide +kernel
theorem dX2_waysBetween_95 : decode cX2_waysBetween 95 = .ok (.aload_n 0, 1) := by decide +kernel
theorem dX2_waysBetween_96 : decode cX2_waysBetween 96 = .ok (.getfield 28, 3) := by decide +kernel
theorem dX2_waysBetween_99 : decode cX2_waysBetween 99 = .ok (.iload 5, 2) := by decide +kernel
theorem dX2_waysBetween_101 : decode cX2_waysBetween 101 = .ok (.iload 4, 2) := by decide +kernel
theorem dX2_waysBetween_103 : decode cX2_waysBetween 103 = .ok (.imul, 1) := by decide +kernel
theorem dX2_waysBetween_104 : decode cX2_waysBetween 104 = .ok (.iload 6, 2) := by decide +kernel
theorem dX2_waysBetween_106 : decode cX2_waysBetween 106 = .ok (.iadd, 1) := by decide +kernel
theorem dX2_waysBetween_107 : decode cX2_waysBetween 107 = .ok (.aload_n 0, 1) := by decide +kernel
theorem dX2_waysBetween_108 : decode cX2_waysBetween 108 = .ok (.aload_n 0, 1) := by decide +kernel
theorem dX2_waysBetween_109 : decode cX2_waysBetween 109 = .ok (.getfield 25, 3) := by decide +kernel
theorem dX2_waysBetween_112 : decode cX2_waysBetween 112 = .ok (.iload 6, 2) := by decide +kernel
theorem dX2_waysBetween_114 : decode cX2_waysBetween 114 = .ok (.iaload, 1) := by decide +kernel
theorem dX2_waysBetween_115 : decode cX2_waysBetween 115 = .ok (.invokevirtual 55, 3) := by decide +kernel
theorem dX2_waysBetween_118 : decode cX2_waysBetween 118 = .ok (.lastore, 1) := by decide +kernel
theorem dX2_waysBetween_119 : decode cX2_waysBetween 119 = .ok (.iinc 6 1, 3) := by decide +kernel
theorem dX2_waysBetween_122 : decode cX2_waysBetween 122 = .ok (.goto (-44), 3) := by decide +kernel
theorem dX2_waysBetween_125 : decode cX2_waysBetween 125 = .ok (.iinc 5 1, 3) := by decide +kernel
theorem dX2_waysBetween_128 : decode cX2_waysBetween 128 = .ok (.goto (-82), 3) := by decide +kernel
theorem dX2_waysBetween_131 : decode cX2_waysBetween 131 = .ok (.aload_n 0, 1) := by decide +kernel
theorem dX2_waysBetween_132 : decode cX2_waysBetween 132 = .ok (.getfield 28, 3) := by decide +kernel
theorem dX2_waysBetween_135 : decode cX2_waysBetween 135 = .ok (.iload 4, 2) := by decide +kernel
theorem dX2_waysBetween_137 : decode cX2_waysBetween 137 = .ok (.invokestatic 59, 3) := by decide +kernel
theorem dX2_waysBetween_140 : decode cX2_waysBetween 140 = .ok (.lreturn, 1) := by decide +kernel
theorem dX2_listPlaces_0 : decode cX2_listPlaces 0 = .ok (.iconst 0, 1) := by decide +kernel
theorem dX2_listPlaces_1 : decode cX2_listPlaces 1 = .ok (.istore_n 3, 1) := by decide +kernel
theorem dX2_listPlaces_2 : decode cX2_listPlaces 2 = .ok (.iconst 0, 1) := by decide +kernel
theorem dX2_listPlaces_3 : decode cX2_listPlaces 3 = .ok (.istore 4, 2) := by decide +kernel
theorem dX2_listPlaces_5 : decode cX2_listPlaces 5 = .ok (.iload 4, 2) := by decide +kernel
theorem dX2_listPlaces_7 : decode cX2_listPlaces 7 = .ok (.iconst 2, 1) := by decide +kernel
theorem dX2_listPlaces_8 : decode cX2_listPlaces 8 = .ok (.if_icmp .ge 52, 3) := by decide +kernel
theorem dX2_listPlaces_11 : decode cX2_listPlaces 11 = .ok (.iload_n 1, 1) := by decide +kernel
theorem dX2_listPlaces_12 : decode cX2_listPlaces 12 = .ok (.iload 4, 2) := by decide +kernel
theorem dX2_listPlaces_14 : decode cX2_listPlaces 14 = .ok (.ixor, 1) := by decide +kernel
theorem dX2_listPlaces_15 : decode cX2_listPlaces 15 = .ok (.istore 5, 2) := by decide +kernel
theorem dX2_listPlaces_17 : decode cX2_listPlaces 17 = .ok (.iload 5, 2) := by decide +kernel
theorem dX2_listPlaces_19 : decode cX2_listPlaces 19 = .ok (.bipush 12, 2) := by decide +kernel
theorem dX2_listPlaces_21 : decode cX2_listPlaces 21 = .ok (.if_icmp .ge 33, 3) := by decide +kernel
theorem dX2_listPlaces_24 : decode cX2_listPlaces 24 = .ok (.iload_n 0, 1) := by decide +kernel
theorem dX2_listPlaces_25 : decode cX2_listPlaces 25 = .ok (.iload 5, 2) := by decide +kernel
theorem dX2_listPlaces_27 : decode cX2_listPlaces 27 = .ok (.ishr, 1) := by decide +kernel
theorem dX2_listPlaces_28 : decode cX2_listPlaces 28 = .ok (.iconst 1, 1) := by decide +kernel
theorem dX2_listPlaces_29 : decode cX2_listPlaces 29 = .ok (.iand, 1) := by decide +kernel
theorem dX2_listPlaces_30 : decode cX2_listPlaces 30 = .ok (.iconst 1, 1) := by decide +kernel
theorem dX2_listPlaces_31 : decode cX2_listPlaces 31 = .ok (.if_icmp .ne 17, 3) := by decide +kernel
theorem dX2_listPlaces_34 : decode cX2_listPlaces 34 = .ok (.iload_n 3, 1) := by decide +kernel
theorem dX2_listPlaces_35 : decode cX2_listPlaces 35 = .ok (.aload_n 2, 1) := by decide +kernel
theorem dX2_listPlaces_36 : decode cX2_listPlaces 36 = .ok (.arraylength, 1) := by decide +kernel
theorem dX2_listPlaces_37 : decode cX2_listPlaces 37 = .ok (.if_icmp .ge 11, 3) := by decide +kernel
theorem dX2_listPlaces_40 : decode cX2_listPlaces 40 = .ok (.aload_n 2, 1) := by decide +kernel
theorem dX2_listPlaces_41 : decode cX2_listPlaces 41 = .ok (.iload_n 3, 1) := by decide +kernel
theorem dX2_listPlaces_42 : decode cX2_listPlaces 42 = .ok (.iload 5, 2) := by decide +kernel
theorem dX2_listPlaces_44 : decode cX2_listPlaces 44 = .ok (.iastore, 1) := by decide +kernel
theorem dX2_listPlaces_45 : decode cX2_listPlaces 45 = .ok (.iinc 3 1, 3) := by decide +kernel
theorem dX2_listPlaces_48 : decode cX2_listPlaces 48 = .ok (.iinc 5 2, 3) := by decide +kernel
theorem dX2_listPlaces_51 : decode cX2_listPlaces 51 = .ok (.goto (-34), 3) := by decide +kernel
theorem dX2_listPlaces_54 : decode cX2_listPlaces 54 = .ok (.iinc 4 1, 3) := by decide +kernel
theorem dX2_listPlaces_57 : decode cX2_listPlaces 57 = .ok (.goto (-52), 3) := by decide +kernel
theorem dX2_listPlaces_60 : decode cX2_listPlaces 60 = .ok (.return_, 1) := by decide +kernel
theorem dX2_walkFrom_0 : decode cX2_walkFrom 0 = .ok (.iconst 0, 1) := by decide +kernel
theorem dX2_walkFrom_1 : decode cX2_walkFrom 1 = .ok (.istore_n 3, 1) := by decide +kernel
theorem dX2_walkFrom_2 : decode cX2_walkFrom 2 = .ok (.iload_n 3, 1) := by decide +kernel
theorem dX2_walkFrom_3 : decode cX2_walkFrom 3 = .ok (.aload_n 0, 1) := by decide +kernel
theorem dX2_walkFrom_4 : decode cX2_walkFrom 4 = .ok (.getfield 15, 3) := by decide +kernel
theorem dX2_walkFrom_7 : decode cX2_walkFrom 7 = .ok (.arraylength, 1) := by decide +kernel
theorem dX2_walkFrom_8 : decode cX2_walkFrom 8 = .ok (.if_icmp .ge 25, 3) := by decide +kernel
theorem dX2_walkFrom_11 : decode cX2_walkFrom 11 = .ok (.aload_n 0, 1) := by decide +kernel
theorem dX2_walkFrom_12 : decode cX2_walkFrom 12 = .ok (.getfield 15, 3) := by decide +kernel
theorem dX2_walkFrom_15 : decode cX2_walkFrom 15 = .ok (.iload_n 3, 1) := by decide +kernel
theorem dX2_walkFrom_16 : decode cX2_walkFrom 16 = .ok (.iload_n 3, 1) := by decide +kernel
theorem dX2_walkFrom_17 : decode cX2_walkFrom 17 = .ok (.iload_n 1, 1) := by decide +kernel
theorem dX2_walkFrom_18 : decode cX2_walkFrom 18 = .ok (.if_icmp .ne 7, 3) := by decide +kernel
theorem dX2_walkFrom_21 : decode cX2_walkFrom 21 = .ok (.lconst 1, 1) := by decide +kernel
theorem dX2_walkFrom_22 : decode cX2_walkFrom 22 = .ok (.goto 4, 3) := by decide +kernel
theorem dX2_walkFrom_25 : decode cX2_walkFrom 25 = .ok (.lconst 0, 1) := by decide +kernel
theorem dX2_walkFrom_26 : decode cX2_walkFrom 26 = .ok (.lastore, 1) := by decide +kernel
theorem dX2_walkFrom_27 : decode cX2_walkFrom 27 = .ok (.iinc 3 1, 3) := by decide +kernel
theorem dX2_walkFrom_30 : decode cX2_walkFrom 30 = .ok (.goto (-28), 3) := by decide +kernel
theorem dX2_walkFrom_33 : decode cX2_walkFrom 33 = .ok (.iconst 0, 1) := by decide +kernel
theorem dX2_walkFrom_34 : decode cX2_walkFrom 34 = .ok (.istore_n 3, 1) := by decide +kernel
theorem dX2_walkFrom_35 : decode cX2_walkFrom 35 = .ok (.iload_n 3, 1) := by decide +kernel
theorem dX2_walkFrom_36 : decode cX2_walkFrom 36 = .ok (.iload_n 2, 1) := by decide +kernel
theorem dX2_walkFrom_37 : decode cX2_walkFrom 37 = .ok (.if_icmp .ge 72, 3) := by decide +kernel
theorem dX2_walkFrom_40 : decode cX2_walkFrom 40 = .ok (.iconst 0, 1) := by decide +kernel
theorem dX2_walkFrom_41 : decode cX2_walkFrom 41 = .ok (.istore 4, 2) := by decide +kernel
theorem dX2_walkFrom_43 : decode cX2_walkFrom 43 = .ok (.iload 4, 2) := by decide +kernel
theorem dX2_walkFrom_45 : decode cX2_walkFrom 45 = .ok (.aload_n 0, 1) := by decide +kernel
theorem dX2_walkFrom_46 : decode cX2_walkFrom 46 = .ok (.getfield 18, 3) := by decide +kernel
theorem dX2_walkFrom_49 : decode cX2_walkFrom 49 = .ok (.arraylength, 1) := by decide +kernel
theorem dX2_walkFrom_50 : decode cX2_walkFrom 50 = .ok (.if_icmp .ge 33, 3) := by decide +kernel
theorem dX2_walkFrom_53 : decode cX2_walkFrom 53 = .ok (.aload_n 0, 1) := by decide +kernel
theorem dX2_walkFrom_54 : decode cX2_walkFrom 54 = .ok (.getfield 18, 3) := by decide +kernel
theorem dX2_walkFrom_57 : decode cX2_walkFrom 57 = .ok (.iload 4, 2) := by decide +kernel
theorem dX2_walkFrom_59 : decode cX2_walkFrom 59 = .ok (.aload_n 0, 1) := by decide +kernel
theorem dX2_walkFrom_60 : decode cX2_walkFrom 60 = .ok (.iload 4, 2) := by decide +kernel
theorem dX2_walkFrom_62 : decode cX2_walkFrom 62 = .ok (.iconst 1, 1) := by decide +kernel
theorem dX2_walkFrom_63 : decode cX2_walkFrom 63 = .ok (.isub, 1) := by decide +kernel
theorem dX2_walkFrom_64 : decode cX2_walkFrom 64 = .ok (.invokevirtual 55, 3) := by decide +kernel
theorem dX2_walkFrom_67 : decode cX2_walkFrom 67 = .ok (.aload_n 0, 1) := by decide +kernel
theorem dX2_walkFrom_68 : decode cX2_walkFrom 68 = .ok (.iload 4, 2) := by decide +kernel
theorem dX2_walkFrom_70 : decode cX2_walkFrom 70 = .ok (.iconst 1, 1) := by decide +kernel
theorem dX2_walkFrom_71 : decode cX2_walkFrom 71 = .ok (.iadd, 1) := by decide +kernel
theorem dX2_walkFrom_72 : decode cX2_walkFrom 72 = .ok (.invokevirtual 55, 3) := by decide +kernel
theorem dX2_walkFrom_75 : decode cX2_walkFrom 75 = .ok (.ladd, 1) := by decide +kernel
theorem dX2_walkFrom_76 : decode cX2_walkFrom 76 = .ok (.lastore, 1) := by decide +kernel
theorem dX2_walkFrom_77 : decode cX2_walkFrom 77 = .ok (.iinc 4 1, 3) := by decide +kernel
theorem dX2_walkFrom_80 : decode cX2_walkFrom 80 = .ok (.goto (-37), 3) := by decide +kernel
theorem dX2_walkFrom_83 : decode cX2_walkFrom 83 = .ok (.aload_n 0, 1) := by decide +kernel
theorem dX2_walkFrom_84 : decode cX2_walkFrom 84 = .ok (.getfield 15, 3) := by decide +kernel
theorem dX2_walkFrom_87 : decode cX2_walkFrom 87 = .ok (.astore 4, 2) := by decide +kernel
theorem dX2_walkFrom_89 : decode cX2_walkFrom 89 = .ok (.aload_n 0, 1) := by decide +kernel
theorem dX2_walkFrom_90 : decode cX2_walkFrom 90 = .ok (.aload_n 0, 1) := by decide +kernel
theorem dX2_walkFrom_91 : decode cX2_walkFrom 91 = .ok (.getfield 18, 3) := by decide +kernel
theorem dX2_walkFrom_94 : decode cX2_walkFrom 94 = .ok (.putfield 15, 3) := by decide +kernel
theorem dX2_walkFrom_97 : decode cX2_walkFrom 97 = .ok (.aload_n 0, 1) := by decide +kernel
theorem dX2_walkFrom_98 : decode cX2_walkFrom 98 = .ok (.aload 4, 2) := by decide +kernel
theorem dX2_walkFrom_100 : decode cX2_walkFrom 100 = .ok (.putfield 18, 3) := by decide +kernel
theorem dX2_walkFrom_103 : decode cX2_walkFrom 103 = .ok (.iinc 3 1, 3) := by decide +kernel
theorem dX2_walkFrom_106 : decode cX2_walkFrom 106 = .ok (.goto (-71), 3) := by decide +kernel
theorem dX2_walkFrom_109 : decode cX2_walkFrom 109 = .ok (.return_, 1) := by decide +kernel
theorem dX2_walksTo_0 : decode cX2_walksTo 0 = .ok (.iload_n 1, 1) := by decide +kernel
theorem dX2_walksTo_1 : decode cX2_walksTo 1 = .ok (.ifCond .lt 21, 3) := by decide +kernel
theorem dX2_walksTo_4 : decode cX2_walksTo 4 = .ok (.iload_n 1, 1) := by decide +kernel
theorem dX2_walksTo_5 : decode cX2_walksTo 5 = .ok (.aload_n 0, 1) := by decide +kernel
theorem dX2_walksTo_6 : decode cX2_walksTo 6 = .ok (.getfield 15, 3) := by decide +kernel
theorem dX2_walksTo_9 : decode cX2_walksTo 9 = .ok (.arraylength, 1) := by decide +kernel
theorem dX2_walksTo_10 : decode cX2_walksTo 10 = .ok (.if_icmp .ge 12, 3) := by decide +kernel
theorem dX2_walksTo_13 : decode cX2_walksTo 13 = .ok (.aload_n 0, 1) := by decide +kernel
theorem dX2_walksTo_14 : decode cX2_walksTo 14 = .ok (.getfield 15, 3) := by decide +kernel
theorem dX2_walksTo_17 : decode cX2_walksTo 17 = .ok (.iload_n 1, 1) := by decide +kernel
theorem dX2_walksTo_18 : decode cX2_walksTo 18 = .ok (.laload, 1) := by decide +kernel
theorem dX2_walksTo_19 : decode cX2_walksTo 19 = .ok (.goto 4, 3) := by decide +kernel
theorem dX2_walksTo_22 : decode cX2_walksTo 22 = .ok (.lconst 0, 1) := by decide +kernel
theorem dX2_walksTo_23 : decode cX2_walksTo 23 = .ok (.lreturn, 1) := by decide +kernel
theorem dX3_init_0 : decode cX3_init 0 = .ok (.aload_n 0, 1) := by decide +kernel
theorem dX3_init_1 : decode cX3_init 1 = .ok (.invokespecial 1, 3) := by decide +kernel
theorem dX3_init_4 : decode cX3_init 4 = .ok (.aload_n 0, 1) := by decide +kernel
theorem dX3_init_5 : decode cX3_init 5 = .ok (.bipush 64, 2) := by decide +kernel
theorem dX3_init_7 : decode cX3_init 7 = .ok (.newarray .long, 2) := by decide +kernel
theorem dX3_init_9 : decode cX3_init 9 = .ok (.putfield 9, 3) := by decide +kernel
theorem dX3_init_12 : decode cX3_init 12 = .ok (.aload_n 0, 1) := by decide +kernel
theorem dX3_init_13 : decode cX3_init 13 = .ok (.bipush 64, 2) := by decide +kernel
theorem dX3_init_15 : decode cX3_init 15 = .ok (.newarray .long, 2) := by decide +kernel
theorem dX3_init_17 : decode cX3_init 17 = .ok (.putfield 15, 3) := by decide +kernel
theorem dX3_init_20 : decode cX3_init 20 = .ok (.aload_n 0, 1) := by decide +kernel
theorem dX3_init_21 : decode cX3_init 21 = .ok (.aload_n 1, 1) := by decide +kernel
theorem dX3_init_22 : decode cX3_init 22 = .ok (.putfield 18, 3) := by decide +kernel
theorem dX3_init_25 : decode cX3_init 25 = .ok (.return_, 1) := by decide +kernel
theorem dX3_forget_0 : decode cX3_forget 0 = .ok (.aload_n 0, 1) := by decide +kernel
theorem dX3_forget_1 : decode cX3_forget 1 = .ok (.iconst 0, 1) := by decide +kernel
theorem dX3_forget_2 : decode cX3_forget 2 = .ok (.putfield 22, 3) := by decide +kernel
theorem dX3_forget_5 : decode cX3_forget 5 = .ok (.return_, 1) := by decide +kernel
theorem dX3_ready_0 : decode cX3_ready 0 = .ok (.aload_n 0, 1) := by decide +kernel
theorem dX3_ready_1 : decode cX3_ready 1 = .ok (.getfield 22, 3) := by decide +kernel
theorem dX3_ready_4 : decode cX3_ready 4 = .ok (.ifCond .ne 16, 3) := by decide +kernel
theorem dX3_ready_7 : decode cX3_ready 7 = .ok (.aload_n 0, 1) := by decide +kernel
theorem dX3_ready_8 : decode cX3_ready 8 = .ok (.iconst 1, 1) := by decide +kernel
theorem dX3_ready_9 : decode cX3_ready 9 = .ok (.putfield 22, 3) := by decide +kernel
theorem dX3_ready_12 : decode cX3_ready 12 = .ok (.aload_n 0, 1) := by decide +kernel
theorem dX3_ready_13 : decode cX3_ready 13 = .ok (.invokevirtual 26, 3) := by decide +kernel
theorem dX3_ready_16 : decode cX3_ready 16 = .ok (.aload_n 0, 1) := by decide +kernel
theorem dX3_ready_17 : decode cX3_ready 17 = .ok (.invokevirtual 29, 3) := by decide +kernel
theorem dX3_ready_20 : decode cX3_ready 20 = .ok (.aload_n 0, 1) := by decide +kernel
theorem dX3_ready_21 : decode cX3_ready 21 = .ok (.areturn, 1) := by decide +kernel
theorem dX3_reached_0 : decode cX3_reached 0 = .ok (.iload_n 1, 1) := by decide +kernel
theorem dX3_reached_1 : decode cX3_reached 1 = .ok (.ifCond .lt 21, 3) := by decide +kernel
theorem dX3_reached_4 : decode cX3_reached 4 = .ok (.iload_n 1, 1) := by decide +kernel
theorem dX3_reached_5 : decode cX3_reached 5 = .ok (.aload_n 0, 1) := by decide +kernel
theorem dX3_reached_6 : decode cX3_reached 6 = .ok (.getfield 9, 3) := by decide +kernel
theorem dX3_reached_9 : decode cX3_reached 9 = .ok (.arraylength, 1) := by decide +kernel
theorem dX3_reached_10 : decode cX3_reached 10 = .ok (.if_icmp .ge 12, 3) := by decide +kernel
theorem dX3_reached_13 : decode cX3_reached 13 = .ok (.aload_n 0, 1) := by decide +kernel
theorem dX3_reached_14 : decode cX3_reached 14 = .ok (.getfield 9, 3) := by decide +kernel
theorem dX3_reached_17 : decode cX3_reached 17 = .ok (.iload_n 1, 1) := by decide +kernel
theorem dX3_reached_18 : decode cX3_reached 18 = .ok (.laload, 1) := by decide +kernel
theorem dX3_reached_19 : decode cX3_reached 19 = .ok (.goto 4, 3) := by decide +kernel
theorem dX3_reached_22 : decode cX3_reached 22 = .ok (.lconst 0, 1) := by decide +kernel
theorem dX3_reached_23 : decode cX3_reached 23 = .ok (.lreturn, 1) := by decide +kernel
theorem dX3_partOf_0 : decode cX3_partOf 0 = .ok (.iload_n 1, 1) := by decide +kernel
theorem dX3_partOf_1 : decode cX3_partOf 1 = .ok (.ifCond .lt 21, 3) := by decide +kernel
theorem dX3_partOf_4 : decode cX3_partOf 4 = .ok (.iload_n 1, 1) := by decide +kernel
theorem dX3_partOf_5 : decode cX3_partOf 5 = .ok (.aload_n 0, 1) := by decide +kernel
theorem dX3_partOf_6 : decode cX3_partOf 6 = .ok (.getfield 15, 3) := by decide +kernel
theorem dX3_partOf_9 : decode cX3_partOf 9 = .ok (.arraylength, 1) := by decide +kernel
theorem dX3_partOf_10 : decode cX3_partOf 10 = .ok (.if_icmp .ge 12, 3) := by decide +kernel
theorem dX3_partOf_13 : decode cX3_partOf 13 = .ok (.aload_n 0, 1) := by decide +kernel
theorem dX3_partOf_14 : decode cX3_partOf 14 = .ok (.getfield 15, 3) := by decide +kernel
theorem dX3_partOf_17 : decode cX3_partOf 17 = .ok (.iload_n 1, 1) := by decide +kernel
theorem dX3_partOf_18 : decode cX3_partOf 18 = .ok (.laload, 1) := by decide +kernel
theorem dX3_partOf_19 : decode cX3_partOf 19 = .ok (.goto 4, 3) := by decide +kernel
theorem dX3_partOf_22 : decode cX3_partOf 22 = .ok (.lconst 0, 1) := by decide +kernel
theorem dX3_partOf_23 : decode cX3_partOf 23 = .ok (.lreturn, 1) := by decide +kernel
theorem dX3_isShut_0 : decode cX3_isShut 0 = .ok (.aload_n 0, 1) := by decide +kernel
theorem dX3_isShut_1 : decode cX3_isShut 1 = .ok (.iload_n 1, 1) := by decide +kernel
theorem dX3_isShut_2 : decode cX3_isShut 2 = .ok (.invokevirtual 32, 3) := by decide +kernel
theorem dX3_isShut_5 : decode cX3_isShut 5 = .ok (.aload_n 0, 1) := by decide +kernel
theorem dX3_isShut_6 : decode cX3_isShut 6 = .ok (.iload_n 1, 1) := by decide +kernel
theorem dX3_isShut_7 : decode cX3_isShut 7 = .ok (.invokevirtual 36, 3) := by decide +kernel
theorem dX3_isShut_10 : decode cX3_isShut 10 = .ok (.lcmp, 1) := by decide +kernel
theorem dX3_isShut_11 : decode cX3_isShut 11 = .ok (.ifCond .ne 7, 3) := by decide +kernel
theorem dX3_isShut_14 : decode cX3_isShut 14 = .ok (.iconst 1, 1) := by decide +kernel
theorem dX3_isShut_15 : decode cX3_isShut 15 = .ok (.goto 4, 3) := by decide +kernel
theorem dX3_isShut_18 : decode cX3_isShut 18 = .ok (.iconst 0, 1) := by decide +kernel
theorem dX3_isShut_19 : decode cX3_isShut 19 = .ok (.ireturn, 1) := by decide +kernel
theorem dX3_number_0 : decode cX3_number 0 = .ok (.iconst 0, 1) := by decide +kernel
theorem dX3_number_1 : decode cX3_number 1 = .ok (.istore_n 2, 1) := by decide +kernel
theorem dX3_number_2 : decode cX3_number 2 = .ok (.iconst 0, 1) := by decide +kernel
theorem dX3_number_3 : decode cX3_number 3 = .ok (.istore_n 3, 1) := by decide +kernel
theorem dX3_number_4 : decode cX3_number 4 = .ok (.iload_n 3, 1) := by decide +kernel
theorem dX3_number_5 : decode cX3_number 5 = .ok (.aload_n 0, 1) := by decide +kernel
theorem dX3_number_6 : decode cX3_number 6 = .ok (.getfield 18, 3) := by decide +kernel
theorem dX3_number_9 : decode cX3_number 9 = .ok (.invokevirtual 39, 3) := by decide +kernel
theorem dX3_number_12 : decode cX3_number 12 = .ok (.if_icmp .ge 32, 3) := by decide +kernel
theorem dX3_number_15 : decode cX3_number 15 = .ok (.aload_n 0, 1) := by decide +kernel
theorem dX3_number_16 : decode cX3_number 16 = .ok (.iload_n 3, 1) := by decide +kernel
theorem dX3_number_17 : decode cX3_number 17 = .ok (.invokevirtual 43, 3) := by decide +kernel
theorem dX3_number_20 : decode cX3_number 20 = .ok (.ifCond .eq 18, 3) := by decide +kernel
theorem dX3_number_23 : decode cX3_number 23 = .ok (.iload_n 1, 1) := by decide +kernel
theorem dX3_number_24 : decode cX3_number 24 = .ok (.ifCond .eq 11, 3) := by decide +kernel
theorem dX3_number_27 : decode cX3_number 27 = .ok (.aload_n 0, 1) := by decide +kernel
theorem dX3_number_28 : decode cX3_number 28 = .ok (.iload_n 3, 1) := by decide +kernel
theorem dX3_number_29 : decode cX3_number 29 = .ok (.invokevirtual 47, 3) := by decide +kernel
theorem dX3_number_32 : decode cX3_number 32 = .ok (.ifCond .eq 6, 3) := by decide +kernel
theorem dX3_number_35 : decode cX3_number 35 = .ok (.iinc 2 1, 3) := by decide +kernel
theorem dX3_number_38 : decode cX3_number 38 = .ok (.iinc 3 1, 3) := by decide +kernel
theorem dX3_number_41 : decode cX3_number 41 = .ok (.goto (-37), 3) := by decide +kernel
theorem dX3_number_44 : decode cX3_number 44 = .ok (.iload_n 2, 1) := by decide +kernel
theorem dX3_number_45 : decode cX3_number 45 = .ok (.ireturn, 1) := by decide +kernel
theorem dX3_greatestShut_0 : decode cX3_greatestShut 0 = .ok (.iconst 0, 1) := by decide +kernel
theorem dX3_greatestShut_1 : decode cX3_greatestShut 1 = .ok (.istore_n 1, 1) := by decide +kernel
theorem dX3_greatestShut_2 : decode cX3_greatestShut 2 = .ok (.iconst 0, 1) := by decide +kernel
theorem dX3_greatestShut_3 : decode cX3_greatestShut 3 = .ok (.istore_n 2, 1) := by decide +kernel
theorem dX3_greatestShut_4 : decode cX3_greatestShut 4 = .ok (.iload_n 2, 1) := by decide +kernel
theorem dX3_greatestShut_5 : decode cX3_greatestShut 5 = .ok (.aload_n 0, 1) := by decide +kernel
theorem dX3_greatestShut_6 : decode cX3_greatestShut 6 = .ok (.getfield 18, 3) := by decide +kernel
theorem dX3_greatestShut_9 : decode cX3_greatestShut 9 = .ok (.invokevirtual 39, 3) := by decide +kernel
theorem dX3_greatestShut_12 : decode cX3_greatestShut 12 = .ok (.if_icmp .ge 30, 3) := by decide +kernel
theorem dX3_greatestShut_15 : decode cX3_greatestShut 15 = .ok (.aload_n 0, 1) := by decide +kernel
theorem dX3_greatestShut_16 : decode cX3_greatestShut 16 = .ok (.iload_n 2, 1) := by decide +kernel
theorem dX3_greatestShut_17 : decode cX3_greatestShut 17 = .ok (.invokevirtual 47, 3) := by decide +kernel
theorem dX3_greatestShut_20 : decode cX3_greatestShut 20 = .ok (.ifCond .eq 16, 3) := by decide +kernel
theorem dX3_greatestShut_23 : decode cX3_greatestShut 23 = .ok (.iload_n 1, 1) := by decide +kernel
theorem dX3_greatestShut_24 : decode cX3_greatestShut 24 = .ok (.aload_n 0, 1) := by decide +kernel
theorem dX3_greatestShut_25 : decode cX3_greatestShut 25 = .ok (.iload_n 2, 1) := by decide +kernel
theorem dX3_greatestShut_26 : decode cX3_greatestShut 26 = .ok (.invokevirtual 36, 3) := by decide +kernel
theorem dX3_greatestShut_29 : decode cX3_greatestShut 29 = .ok (.invokestatic 50, 3) := by decide +kernel
theorem dX3_greatestShut_32 : decode cX3_greatestShut 32 = .ok (.invokestatic 56, 3) := by decide +kernel
theorem dX3_greatestShut_35 : decode cX3_greatestShut 35 = .ok (.istore_n 1, 1) := by decide +kernel
theorem dX3_greatestShut_36 : decode cX3_greatestShut 36 = .ok (.iinc 2 1, 3) := by decide +kernel
theorem dX3_greatestShut_39 : decode cX3_greatestShut 39 = .ok (.goto (-35), 3) := by decide +kernel
theorem dX3_greatestShut_42 : decode cX3_greatestShut 42 = .ok (.iload_n 1, 1) := by decide +kernel
theorem dX3_greatestShut_43 : decode cX3_greatestShut 43 = .ok (.ireturn, 1) := by decide +kernel
theorem dX3_isLeast_0 : decode cX3_isLeast 0 = .ok (.aload_n 0, 1) := by decide +kernel
theorem dX3_isLeast_1 : decode cX3_isLeast 1 = .ok (.iload_n 1, 1) := by decide +kernel
theorem dX3_isLeast_2 : decode cX3_isLeast 2 = .ok (.invokevirtual 36, 3) := by decide +kernel
theorem dX3_isLeast_5 : decode cX3_isLeast 5 = .ok (.invokestatic 62, 3) := by decide +kernel
theorem dX3_isLeast_8 : decode cX3_isLeast 8 = .ok (.iload_n 1, 1) := by decide +kernel
theorem dX3_isLeast_9 : decode cX3_isLeast 9 = .ok (.if_icmp .ne 7, 3) := by decide +kernel
theorem dX3_isLeast_12 : decode cX3_isLeast 12 = .ok (.iconst 1, 1) := by decide +kernel
theorem dX3_isLeast_13 : decode cX3_isLeast 13 = .ok (.goto 4, 3) := by decide +kernel
theorem dX3_isLeast_16 : decode cX3_isLeast 16 = .ok (.iconst 0, 1) := by decide +kernel
theorem dX3_isLeast_17 : decode cX3_isLeast 17 = .ok (.ireturn, 1) := by decide +kernel
theorem dX3_findReach_0 : decode cX3_findReach 0 = .ok (.aload_n 0, 1) := by decide +kernel
theorem dX3_findReach_1 : decode cX3_findReach 1 = .ok (.getfield 18, 3) := by decide +kernel
theorem dX3_findReach_4 : decode cX3_findReach 4 = .ok (.invokevirtual 39, 3) := by decide +kernel
theorem dX3_findReach_7 : decode cX3_findReach 7 = .ok (.aload_n 0, 1) := by decide +kernel
theorem dX3_findReach_8 : decode cX3_findReach 8 = .ok (.getfield 9, 3) := by decide +kernel
theorem dX3_findReach_11 : decode cX3_findReach 11 = .ok (.arraylength, 1) := by decide +kernel
theorem dX3_findReach_12 : decode cX3_findReach 12 = .ok (.invokestatic 65, 3) := by decide +kernel
theorem dX3_findReach_15 : decode cX3_findReach 15 = .ok (.istore_n 1, 1) := by decide +kernel
theorem dX3_findReach_16 : decode cX3_findReach 16 = .ok (.iconst 0, 1) := by decide +kernel
theorem dX3_findReach_17 : decode cX3_findReach 17 = .ok (.istore_n 2, 1) := by decide +kernel
theorem dX3_findReach_18 : decode cX3_findReach 18 = .ok (.iload_n 2, 1) := by decide +kernel
theorem dX3_findReach_19 : decode cX3_findReach 19 = .ok (.iload_n 1, 1) := by decide +kernel
theorem dX3_findReach_20 : decode cX3_findReach 20 = .ok (.if_icmp .ge 27, 3) := by decide +kernel
theorem dX3_findReach_23 : decode cX3_findReach 23 = .ok (.aload_n 0, 1) := by decide +kernel
theorem dX3_findReach_24 : decode cX3_findReach 24 = .ok (.getfield 9, 3) := by decide +kernel
theorem dX3_findReach_27 : decode cX3_findReach 27 = .ok (.iload_n 2, 1) := by decide +kernel
theorem dX3_findReach_28 : decode cX3_findReach 28 = .ok (.aload_n 0, 1) := by decide +kernel
theorem dX3_findReach_29 : decode cX3_findReach 29 = .ok (.getfield 18, 3) := by decide +kernel
theorem dX3_findReach_32 : decode cX3_findReach 32 = .ok (.iload_n 2, 1) := by decide +kernel
theorem dX3_findReach_33 : decode cX3_findReach 33 = .ok (.invokevirtual 68, 3) := by decide +kernel
theorem dX3_findReach_36 : decode cX3_findReach 36 = .ok (.lconst 1, 1) := by decide +kernel
theorem dX3_findReach_37 : decode cX3_findReach 37 = .ok (.iload_n 2, 1) := by decide +kernel
theorem dX3_findReach_38 : decode cX3_findReach 38 = .ok (.lshl, 1) := by decide +kernel
theorem dX3_findReach_39 : decode cX3_findReach 39 = .ok (.lor, 1) := by decide +kernel
theorem dX3_findReach_40 : decode cX3_findReach 40 = .ok (.lastore, 1) := by decide +kernel
theorem dX3_findReach_41 : decode cX3_findReach 41 = .ok (.iinc 2 1, 3) := by decide +kernel
theorem dX3_findReach_44 : decode cX3_findReach 44 = .ok (.goto (-26), 3) := by decide +kernel
theorem dX3_findReach_47 : decode cX3_findReach 47 = .ok (.iconst 0, 1) := by decide +kernel
theorem dX3_findReach_48 : decode cX3_findReach 48 = .ok (.istore_n 2, 1) := by decide +kernel
theorem dX3_findReach_49 : decode cX3_findReach 49 = .ok (.iload_n 2, 1) := by decide +kernel
theorem dX3_findReach_50 : decode cX3_findReach 50 = .ok (.iload_n 1, 1) := by decide +kernel
theorem dX3_findReach_51 : decode cX3_findReach 51 = .ok (.if_icmp .ge 52, 3) := by decide +kernel
theorem dX3_findReach_54 : decode cX3_findReach 54 = .ok (.iconst 0, 1) := by decide +kernel
theorem dX3_findReach_55 : decode cX3_findReach 55 = .ok (.istore_n 3, 1) := by decide +kernel
theorem dX3_findReach_56 : decode cX3_findReach 56 = .ok (.iload_n 3, 1) := by decide +kernel
theorem dX3_findReach_57 : decode cX3_findReach 57 = .ok (.iload_n 1, 1) := by decide +kernel
theorem dX3_findReach_58 : decode cX3_findReach 58 = .ok (.if_icmp .ge 39, 3) := by decide +kernel
theorem dX3_findReach_61 : decode cX3_findReach 61 = .ok (.aload_n 0, 1) := by decide +kernel
theorem dX3_findReach_62 : decode cX3_findReach 62 = .ok (.getfield 9, 3) := by decide +kernel
theorem dX3_findReach_65 : decode cX3_findReach 65 = .ok (.iload_n 3, 1) := by decide +kernel
theorem dX3_findReach_66 : decode cX3_findReach 66 = .ok (.laload, 1) := by decide +kernel
theorem dX3_findReach_67 : decode cX3_findReach 67 = .ok (.iload_n 2, 1) := by decide +kernel
theorem dX3_findReach_68 : decode cX3_findReach 68 = .ok (.lushr, 1) := by decide +kernel
theorem dX3_findReach_69 : decode cX3_findReach 69 = .ok (.lconst 1, 1) := by decide +kernel
theorem dX3_findReach_70 : decode cX3_findReach 70 = .ok (.land, 1) := by decide +kernel
theorem dX3_findReach_71 : decode cX3_findReach 71 = .ok (.lconst 1, 1) := by decide +kernel
theorem dX3_findReach_72 : decode cX3_findReach 72 = .ok (.lcmp, 1) := by decide +kernel
theorem dX3_findReach_73 : decode cX3_findReach 73 = .ok (.ifCond .ne 18, 3) := by decide +kernel
theorem dX3_findReach_76 : decode cX3_findReach 76 = .ok (.aload_n 0, 1) := by decide +kernel
theorem dX3_findReach_77 : decode cX3_findReach 77 = .ok (.getfield 9, 3) := by decide +kernel
theorem dX3_findReach_80 : decode cX3_findReach 80 = .ok (.iload_n 3, 1) := by decide +kernel
theorem dX3_findReach_81 : decode cX3_findReach 81 = .ok (.dup2, 1) := by decide +kernel
theorem dX3_findReach_82 : decode cX3_findReach 82 = .ok (.laload, 1) := by decide +kernel
theorem dX3_findReach_83 : decode cX3_findReach 83 = .ok (.aload_n 0, 1) := by decide +kernel
theorem dX3_findReach_84 : decode cX3_findReach 84 = .ok (.getfield 9, 3) := by decide +kernel
theorem dX3_findReach_87 : decode cX3_findReach 87 = .ok (.iload_n 2, 1) := by decide +kernel
theorem dX3_findReach_88 : decode cX3_findReach 88 = .ok (.laload, 1) := by decide +kernel
theorem dX3_findReach_89 : decode cX3_findReach 89 = .ok (.lor, 1) := by decide +kernel
theorem dX3_findReach_90 : decode cX3_findReach 90 = .ok (.lastore, 1) := by decide +kernel
theorem dX3_findReach_91 : decode cX3_findReach 91 = .ok (.iinc 3 1, 3) := by decide +kernel
theorem dX3_findReach_94 : decode cX3_findReach 94 = .ok (.goto (-38), 3) := by decide +kernel
theorem dX3_findReach_97 : decode cX3_findReach 97 = .ok (.iinc 2 1, 3) := by decide +kernel
theorem dX3_findReach_100 : decode cX3_findReach 100 = .ok (.goto (-51), 3) := by decide +kernel
theorem dX3_findReach_103 : decode cX3_findReach 103 = .ok (.return_, 1) := by decide +kernel
theorem dX3_findParts_0 : decode cX3_findParts 0 = .ok (.aload_n 0, 1) := by decide +kernel
theorem dX3_findParts_1 : decode cX3_findParts 1 = .ok (.getfield 18, 3) := by decide +kernel
theorem dX3_findParts_4 : decode cX3_findParts 4 = .ok (.invokevirtual 39, 3) := by decide +kernel
theorem dX3_findParts_7 : decode cX3_findParts 7 = .ok (.aload_n 0, 1) := by decide +kernel
theorem dX3_findParts_8 : decode cX3_findParts 8 = .ok (.getfield 9, 3) := by decide +kernel
theorem dX3_findParts_11 : decode cX3_findParts 11 = .ok (.arraylength, 1) := by decide +kernel
theorem dX3_findParts_12 : decode cX3_findParts 12 = .ok (.invokestatic 65, 3) := by decide +kernel
theorem dX3_findParts_15 : decode cX3_findParts 15 = .ok (.istore_n 1, 1) := by decide +kernel
theorem dX3_findParts_16 : decode cX3_findParts 16 = .ok (.iconst 0, 1) := by decide +kernel
theorem dX3_findParts_17 : decode cX3_findParts 17 = .ok (.istore_n 2, 1) := by decide +kernel
theorem dX3_findParts_18 : decode cX3_findParts 18 = .ok (.iload_n 2, 1) := by decide +kernel
theorem dX3_findParts_19 : decode cX3_findParts 19 = .ok (.iload_n 1, 1) := by decide +kernel
theorem dX3_findParts_20 : decode cX3_findParts 20 = .ok (.if_icmp .ge 16, 3) := by decide +kernel
theorem dX3_findParts_23 : decode cX3_findParts 23 = .ok (.aload_n 0, 1) := by decide +kernel
theorem dX3_findParts_24 : decode cX3_findParts 24 = .ok (.getfield 15, 3) := by decide +kernel
theorem dX3_findParts_27 : decode cX3_findParts 27 = .ok (.iload_n 2, 1) := by decide +kernel
theorem dX3_findParts_28 : decode cX3_findParts 28 = .ok (.lconst 0, 1) := by decide +kernel
theorem dX3_findParts_29 : decode cX3_findParts 29 = .ok (.lastore, 1) := by decide +kernel
theorem dX3_findParts_30 : decode cX3_findParts 30 = .ok (.iinc 2 1, 3) := by decide +kernel
theorem dX3_findParts_33 : decode cX3_findParts 33 = .ok (.goto (-15), 3) := by decide +kernel
theorem dX3_findParts_36 : decode cX3_findParts 36 = .ok (.iconst 0, 1) := by decide +kernel
theorem dX3_findParts_37 : decode cX3_findParts 37 = .ok (.istore_n 2, 1) := by decide +kernel
theorem dX3_findParts_38 : decode cX3_findParts 38 = .ok (.iload_n 2, 1) := by decide +kernel
theorem dX3_findParts_39 : decode cX3_findParts 39 = .ok (.iload_n 1, 1) := by decide +kernel
theorem dX3_findParts_40 : decode cX3_findParts 40 = .ok (.if_icmp .ge 26, 3) := by decide +kernel
theorem dX3_findParts_43 : decode cX3_findParts 43 = .ok (.aload_n 0, 1) := by decide +kernel
theorem dX3_findParts_44 : decode cX3_findParts 44 = .ok (.getfield 15, 3) := by decide +kernel
theorem dX3_findParts_47 : decode cX3_findParts 47 = .ok (.iload_n 2, 1) := by decide +kernel
theorem dX3_findParts_48 : decode cX3_findParts 48 = .ok (.laload, 1) := by decide +kernel
theorem dX3_findParts_49 : decode cX3_findParts 49 = .ok (.lconst 0, 1) := by decide +kernel
theorem dX3_findParts_50 : decode cX3_findParts 50 = .ok (.lcmp, 1) := by decide +kernel
theorem dX3_findParts_51 : decode cX3_findParts 51 = .ok (.ifCond .ne 9, 3) := by decide +kernel
theorem dX3_findParts_54 : decode cX3_findParts 54 = .ok (.aload_n 0, 1) := by decide +kernel
theorem dX3_findParts_55 : decode cX3_findParts 55 = .ok (.iload_n 2, 1) := by decide +kernel
theorem dX3_findParts_56 : decode cX3_findParts 56 = .ok (.iload_n 1, 1) := by decide +kernel
theorem dX3_findParts_57 : decode cX3_findParts 57 = .ok (.invokevirtual 71, 3) := by decide +kernel
theorem dX3_findParts_60 : decode cX3_findParts 60 = .ok (.iinc 2 1, 3) := by decide +kernel
theorem dX3_findParts_63 : decode cX3_findParts 63 = .ok (.goto (-25), 3) := by decide +kernel
theorem dX3_findParts_66 : decode cX3_findParts 66 = .ok (.return_, 1) := by decide +kernel
theorem dX3_spreadPart_0 : decode cX3_spreadPart 0 = .ok (.lconst 0, 1) := by decide +kernel
theorem dX3_spreadPart_1 : decode cX3_spreadPart 1 = .ok (.lstore_n 3, 1) := by decide +kernel
theorem dX3_spreadPart_2 : decode cX3_spreadPart 2 = .ok (.iload_n 1, 1) := by decide +kernel
theorem dX3_spreadPart_3 : decode cX3_spreadPart 3 = .ok (.istore 5, 2) := by decide +kernel
theorem dX3_spreadPart_5 : decode cX3_spreadPart 5 = .ok (.iload 5, 2) := by decide +kernel
theorem dX3_spreadPart_7 : decode cX3_spreadPart 7 = .ok (.iload_n 2, 1) := by decide +kernel
theorem dX3_spreadPart_8 : decode cX3_spreadPart 8 = .ok (.if_icmp .ge 33, 3) := by decide +kernel
theorem dX3_spreadPart_11 : decode cX3_spreadPart 11 = .ok (.aload_n 0, 1) := by decide +kernel
theorem dX3_spreadPart_12 : decode cX3_spreadPart 12 = .ok (.getfield 9, 3) := by decide +kernel
theorem dX3_spreadPart_15 : decode cX3_spreadPart 15 = .ok (.iload 5, 2) := by decide +kernel
theorem dX3_spreadPart_17 : decode cX3_spreadPart 17 = .ok (.laload, 1) := by decide +kernel
theorem dX3_spreadPart_18 : decode cX3_spreadPart 18 = .ok (.aload_n 0, 1) := by decide +kernel
theorem dX3_spreadPart_19 : decode cX3_spreadPart 19 = .ok (.getfield 9, 3) := by decide +kernel
theorem dX3_spreadPart_22 : decode cX3_spreadPart 22 = .ok (.iload_n 1, 1) := by decide +kernel
theorem dX3_spreadPart_23 : decode cX3_spreadPart 23 = .ok (.laload, 1) := by decide +kernel
theorem dX3_spreadPart_24 : decode cX3_spreadPart 24 = .ok (.lcmp, 1) := by decide +kernel
theorem dX3_spreadPart_25 : decode cX3_spreadPart 25 = .ok (.ifCond .ne 10, 3) := by decide +kernel
theorem dX3_spreadPart_28 : decode cX3_spreadPart 28 = .ok (.lload_n 3, 1) := by decide +kernel
theorem dX3_spreadPart_29 : decode cX3_spreadPart 29 = .ok (.lconst 1, 1) := by decide +kernel
theorem dX3_spreadPart_30 : decode cX3_spreadPart 30 = .ok (.iload 5, 2) := by decide +kernel
theorem dX3_spreadPart_32 : decode cX3_spreadPart 32 = .ok (.lshl, 1) := by decide +kernel
theorem dX3_spreadPart_33 : decode cX3_spreadPart 33 = .ok (.lor, 1) := by decide +kernel
theorem dX3_spreadPart_34 : decode cX3_spreadPart 34 = .ok (.lstore_n 3, 1) := by decide +kernel
theorem dX3_spreadPart_35 : decode cX3_spreadPart 35 = .ok (.iinc 5 1, 3) := by decide +kernel
theorem dX3_spreadPart_38 : decode cX3_spreadPart 38 = .ok (.goto (-33), 3) := by decide +kernel
theorem dX3_spreadPart_41 : decode cX3_spreadPart 41 = .ok (.iload_n 1, 1) := by decide +kernel
theorem dX3_spreadPart_42 : decode cX3_spreadPart 42 = .ok (.istore 5, 2) := by decide +kernel
theorem dX3_spreadPart_44 : decode cX3_spreadPart 44 = .ok (.iload 5, 2) := by decide +kernel
theorem dX3_spreadPart_46 : decode cX3_spreadPart 46 = .ok (.iload_n 2, 1) := by decide +kernel
theorem dX3_spreadPart_47 : decode cX3_spreadPart 47 = .ok (.if_icmp .ge 28, 3) := by decide +kernel
theorem dX3_spreadPart_50 : decode cX3_spreadPart 50 = .ok (.lload_n 3, 1) := by decide +kernel
theorem dX3_spreadPart_51 : decode cX3_spreadPart 51 = .ok (.iload 5, 2) := by decide +kernel
theorem dX3_spreadPart_53 : decode cX3_spreadPart 53 = .ok (.lushr, 1) := by decide +kernel
theorem dX3_spreadPart_54 : decode cX3_spreadPart 54 = .ok (.lconst 1, 1) := by decide +kernel
theorem dX3_spreadPart_55 : decode cX3_spreadPart 55 = .ok (.land, 1) := by decide +kernel
theorem dX3_spreadPart_56 : decode cX3_spreadPart 56 = .ok (.lconst 1, 1) := by decide +kernel
theorem dX3_spreadPart_57 : decode cX3_spreadPart 57 = .ok (.lcmp, 1) := by decide +kernel
theorem dX3_spreadPart_58 : decode cX3_spreadPart 58 = .ok (.ifCond .ne 11, 3) := by decide +kernel
theorem dX3_spreadPart_61 : decode cX3_spreadPart 61 = .ok (.aload_n 0, 1) := by decide +kernel
theorem dX3_spreadPart_62 : decode cX3_spreadPart 62 = .ok (.getfield 15, 3) := by decide +kernel
theorem dX3_spreadPart_65 : decode cX3_spreadPart 65 = .ok (.iload 5, 2) := by decide +kernel
theorem dX3_spreadPart_67 : decode cX3_spreadPart 67 = .ok (.lload_n 3, 1) := by decide +kernel
theorem dX3_spreadPart_68 : decode cX3_spreadPart 68 = .ok (.lastore, 1) := by decide +kernel
theorem dX3_spreadPart_69 : decode cX3_spreadPart 69 = .ok (.iinc 5 1, 3) := by decide +kernel
theorem dX3_spreadPart_72 : decode cX3_spreadPart 72 = .ok (.goto (-28), 3) := by decide +kernel
theorem dX3_spreadPart_75 : decode cX3_spreadPart 75 = .ok (.return_, 1) := by decide +kernel
theorem dX4_init_0 : decode cX4_init 0 = .ok (.aload_n 0, 1) := by decide +kernel
theorem dX4_init_1 : decode cX4_init 1 = .ok (.invokespecial 1, 3) := by decide +kernel
theorem dX4_init_4 : decode cX4_init 4 = .ok (.aload_n 0, 1) := by decide +kernel
theorem dX4_init_5 : decode cX4_init 5 = .ok (.bipush 8, 2) := by decide +kernel
theorem dX4_init_7 : decode cX4_init 7 = .ok (.newarray .int, 2) := by decide +kernel
theorem dX4_init_9 : decode cX4_init 9 = .ok (.putfield 9, 3) := by decide +kernel
theorem dX4_init_12 : decode cX4_init 12 = .ok (.aload_n 0, 1) := by decide +kernel
theorem dX4_init_13 : decode cX4_init 13 = .ok (.aload_n 1, 1) := by decide +kernel
theorem dX4_init_14 : decode cX4_init 14 = .ok (.putfield 15, 3) := by decide +kernel
theorem dX4_init_17 : decode cX4_init 17 = .ok (.return_, 1) := by decide +kernel
theorem dX4_faultFound_0 : decode cX4_faultFound 0 = .ok (.aload_n 0, 1) := by decide +kernel
theorem dX4_faultFound_1 : decode cX4_faultFound 1 = .ok (.getfield 19, 3) := by decide +kernel
theorem dX4_faultFound_4 : decode cX4_faultFound 4 = .ok (.ireturn, 1) := by decide +kernel
theorem dX4_faultPlace_0 : decode cX4_faultPlace 0 = .ok (.aload_n 0, 1) := by decide +kernel
theorem dX4_faultPlace_1 : decode cX4_faultPlace 1 = .ok (.getfield 23, 3) := by decide +kernel
theorem dX4_faultPlace_4 : decode cX4_faultPlace 4 = .ok (.ireturn, 1) := by decide +kernel
theorem dX4_lines_0 : decode cX4_lines 0 = .ok (.aload_n 0, 1) := by decide +kernel
theorem dX4_lines_1 : decode cX4_lines 1 = .ok (.getfield 26, 3) := by decide +kernel
theorem dX4_lines_4 : decode cX4_lines 4 = .ok (.ireturn, 1) := by decide +kernel
theorem dX4_tellTo_0 : decode cX4_tellTo 0 = .ok (.iconst 0, 1) := by decide +kernel
theorem dX4_tellTo_1 : decode cX4_tellTo 1 = .ok (.istore_n 2, 1) := by decide +kernel
theorem dX4_tellTo_2 : decode cX4_tellTo 2 = .ok (.iload_n 2, 1) := by decide +kernel
theorem dX4_tellTo_3 : decode cX4_tellTo 3 = .ok (.aload_n 0, 1) := by decide +kernel
theorem dX4_tellTo_4 : decode cX4_tellTo 4 = .ok (.getfield 9, 3) := by decide +kernel
theorem dX4_tellTo_7 : decode cX4_tellTo 7 = .ok (.arraylength, 1) := by decide +kernel
theorem dX4_tellTo_8 : decode cX4_tellTo 8 = .ok (.if_icmp .ge 20, 3) := by decide +kernel
theorem dX4_tellTo_11 : decode cX4_tellTo 11 = .ok (.aload_n 1, 1) := by decide +kernel
theorem dX4_tellTo_12 : decode cX4_tellTo 12 = .ok (.iload_n 2, 1) := by decide +kernel
theorem dX4_tellTo_13 : decode cX4_tellTo 13 = .ok (.aload_n 0, 1) := by decide +kernel
theorem dX4_tellTo_14 : decode cX4_tellTo 14 = .ok (.getfield 9, 3) := by decide +kernel
theorem dX4_tellTo_17 : decode cX4_tellTo 17 = .ok (.iload_n 2, 1) := by decide +kernel
theorem dX4_tellTo_18 : decode cX4_tellTo 18 = .ok (.iaload, 1) := by decide +kernel
theorem dX4_tellTo_19 : decode cX4_tellTo 19 = .ok (.invokevirtual 29, 3) := by decide +kernel
theorem dX4_tellTo_22 : decode cX4_tellTo 22 = .ok (.iinc 2 1, 3) := by decide +kernel
theorem dX4_tellTo_25 : decode cX4_tellTo 25 = .ok (.goto (-23), 3) := by decide +kernel
theorem dX4_tellTo_28 : decode cX4_tellTo 28 = .ok (.return_, 1) := by decide +kernel
theorem dX4_readText_0 : decode cX4_readText 0 = .ok (.iconst 0, 1) := by decide +kernel
theorem dX4_readText_1 : decode cX4_readText 1 = .ok (.istore_n 1, 1) := by decide +kernel
theorem dX4_readText_2 : decode cX4_readText 2 = .ok (.iload_n 1, 1) := by decide +kernel
theorem dX4_readText_3 : decode cX4_readText 3 = .ok (.aload_n 0, 1) := by decide +kernel
theorem dX4_readText_4 : decode cX4_readText 4 = .ok (.getfield 9, 3) := by decide +kernel
theorem dX4_readText_7 : decode cX4_readText 7 = .ok (.arraylength, 1) := by decide +kernel
theorem dX4_readText_8 : decode cX4_readText 8 = .ok (.if_icmp .ge 19, 3) := by decide +kernel
theorem dX4_readText_11 : decode cX4_readText 11 = .ok (.aload_n 0, 1) := by decide +kernel
theorem dX4_readText_12 : decode cX4_readText 12 = .ok (.getfield 9, 3) := by decide +kernel
theorem dX4_readText_15 : decode cX4_readText 15 = .ok (.iload_n 1, 1) := by decide +kernel
theorem dX4_readText_16 : decode cX4_readText 16 = .ok (.iload_n 1, 1) := by decide +kernel
theorem dX4_readText_17 : decode cX4_readText 17 = .ok (.invokestatic 33, 3) := by decide +kernel
theorem dX4_readText_20 : decode cX4_readText 20 = .ok (.iastore, 1) := by decide +kernel
theorem dX4_readText_21 : decode cX4_readText 21 = .ok (.iinc 1 1, 3) := by decide +kernel
theorem dX4_readText_24 : decode cX4_readText 24 = .ok (.goto (-22), 3) := by decide +kernel
theorem dX4_readText_27 : decode cX4_readText 27 = .ok (.aload_n 0, 1) := by decide +kernel
theorem dX4_readText_28 : decode cX4_readText 28 = .ok (.iconst 0, 1) := by decide +kernel
theorem dX4_readText_29 : decode cX4_readText 29 = .ok (.putfield 37, 3) := by decide +kernel
theorem dX4_readText_32 : decode cX4_readText 32 = .ok (.aload_n 0, 1) := by decide +kernel
theorem dX4_readText_33 : decode cX4_readText 33 = .ok (.iconst 0, 1) := by decide +kernel
theorem dX4_readText_34 : decode cX4_readText 34 = .ok (.putfield 40, 3) := by decide +kernel
theorem dX4_readText_37 : decode cX4_readText 37 = .ok (.aload_n 0, 1) := by decide +kernel
theorem dX4_readText_38 : decode cX4_readText 38 = .ok (.iconst 0, 1) := by decide +kernel
theorem dX4_readText_39 : decode cX4_readText 39 = .ok (.putfield 26, 3) := by decide +kernel
theorem dX4_readText_42 : decode cX4_readText 42 = .ok (.aload_n 0, 1) := by decide +kernel
theorem dX4_readText_43 : decode cX4_readText 43 = .ok (.iconst 0, 1) := by decide +kernel
theorem dX4_readText_44 : decode cX4_readText 44 = .ok (.putfield 19, 3) := by decide +kernel
theorem dX4_readText_47 : decode cX4_readText 47 = .ok (.iconst 0, 1) := by decide +kernel
theorem dX4_readText_48 : decode cX4_readText 48 = .ok (.istore_n 1, 1) := by decide +kernel
theorem dX4_readText_49 : decode cX4_readText 49 = .ok (.iload_n 1, 1) := by decide +kernel
theorem dX4_readText_50 : decode cX4_readText 50 = .ok (.bipush 120, 2) := by decide +kernel
theorem dX4_readText_52 : decode cX4_readText 52 = .ok (.if_icmp .gt 42, 3) := by decide +kernel
theorem dX4_readText_55 : decode cX4_readText 55 = .ok (.aload_n 0, 1) := by decide +kernel
theorem dX4_readText_56 : decode cX4_readText 56 = .ok (.invokevirtual 45, 3) := by decide +kernel
theorem dX4_readText_59 : decode cX4_readText 59 = .ok (.aload_n 0, 1) := by decide +kernel
theorem dX4_readText_60 : decode cX4_readText 60 = .ok (.getfield 48, 3) := by decide +kernel
theorem dX4_readText_63 : decode cX4_readText 63 = .ok (.iconst 4, 1) := by decide +kernel
theorem dX4_readText_64 : decode cX4_readText 64 = .ok (.if_icmp .ne 5, 3) := by decide +kernel
theorem dX4_readText_67 : decode cX4_readText 67 = .ok (.iconst 1, 1) := by decide +kernel
theorem dX4_readText_68 : decode cX4_readText 68 = .ok (.ireturn, 1) := by decide +kernel
theorem dX4_readText_69 : decode cX4_readText 69 = .ok (.aload_n 0, 1) := by decide +kernel
theorem dX4_readText_70 : decode cX4_readText 70 = .ok (.invokevirtual 51, 3) := by decide +kernel
theorem dX4_readText_73 : decode cX4_readText 73 = .ok (.ifCond .ne 5, 3) := by decide +kernel
theorem dX4_readText_76 : decode cX4_readText 76 = .ok (.iconst 0, 1) := by decide +kernel
theorem dX4_readText_77 : decode cX4_readText 77 = .ok (.ireturn, 1) := by decide +kernel
theorem dX4_readText_78 : decode cX4_readText 78 = .ok (.aload_n 0, 1) := by decide +kernel
theorem dX4_readText_79 : decode cX4_readText 79 = .ok (.dup, 1) := by decide +kernel
theorem dX4_readText_80 : decode cX4_readText 80 = .ok (.getfield 26, 3) := by decide +kernel
theorem dX4_readText_83 : decode cX4_readText 83 = .ok (.iconst 1, 1) := by decide +kernel
theorem dX4_readText_84 : decode cX4_readText 84 = .ok (.iadd, 1) := by decide +kernel
theorem dX4_readText_85 : decode cX4_readText 85 = .ok (.putfield 26, 3) := by decide +kernel
theorem dX4_readText_88 : decode cX4_readText 88 = .ok (.iinc 1 1, 3) := by decide +kernel
theorem dX4_readText_91 : decode cX4_readText 91 = .ok (.goto (-42), 3) := by decide +kernel
theorem dX4_readText_94 : decode cX4_readText 94 = .ok (.iconst 1, 1) := by decide +kernel
theorem dX4_readText_95 : decode cX4_readText 95 = .ok (.ireturn, 1) := by decide +kernel
theorem dX4_takeLine_0 : decode cX4_takeLine 0 = .ok (.aload_n 0, 1) := by decide +kernel
theorem dX4_takeLine_1 : decode cX4_takeLine 1 = .ok (.iconst 1, 1) := by decide +kernel
theorem dX4_takeLine_2 : decode cX4_takeLine 2 = .ok (.invokevirtual 55, 3) := by decide +kernel
theorem dX4_takeLine_5 : decode cX4_takeLine 5 = .ok (.ifCond .ne 5, 3) := by decide +kernel
theorem dX4_takeLine_8 : decode cX4_takeLine 8 = .ok (.iconst 0, 1) := by decide +kernel
theorem dX4_takeLine_9 : decode cX4_takeLine 9 = .ok (.ireturn, 1) := by decide +kernel
theorem dX4_takeLine_10 : decode cX4_takeLine 10 = .ok (.aload_n 0, 1) := by decide +kernel
theorem dX4_takeLine_11 : decode cX4_takeLine 11 = .ok (.getfield 59, 3) := by decide +kernel
theorem dX4_takeLine_14 : decode cX4_takeLine 14 = .ok (.istore_n 1, 1) := by decide +kernel
theorem dX4_takeLine_15 : decode cX4_takeLine 15 = .ok (.iconst 1, 1) := by decide +kernel
theorem dX4_takeLine_16 : decode cX4_takeLine 16 = .ok (.iload_n 1, 1) := by decide +kernel
theorem dX4_takeLine_17 : decode cX4_takeLine 17 = .ok (.iconst 1, 1) := by decide +kernel
theorem dX4_takeLine_18 : decode cX4_takeLine 18 = .ok (.if_icmp .ne 7, 3) := by decide +kernel
theorem dX4_takeLine_21 : decode cX4_takeLine 21 = .ok (.iconst 0, 1) := by decide +kernel
theorem dX4_takeLine_22 : decode cX4_takeLine 22 = .ok (.goto 4, 3) := by decide +kernel
theorem dX4_takeLine_25 : decode cX4_takeLine 25 = .ok (.iload_n 1, 1) := by decide +kernel
theorem dX4_takeLine_26 : decode cX4_takeLine 26 = .ok (.ishl, 1) := by decide +kernel
theorem dX4_takeLine_27 : decode cX4_takeLine 27 = .ok (.istore_n 2, 1) := by decide +kernel
theorem dX4_takeLine_28 : decode cX4_takeLine 28 = .ok (.aload_n 0, 1) := by decide +kernel
theorem dX4_takeLine_29 : decode cX4_takeLine 29 = .ok (.getfield 40, 3) := by decide +kernel
theorem dX4_takeLine_32 : decode cX4_takeLine 32 = .ok (.iload_n 2, 1) := by decide +kernel
theorem dX4_takeLine_33 : decode cX4_takeLine 33 = .ok (.iand, 1) := by decide +kernel
theorem dX4_takeLine_34 : decode cX4_takeLine 34 = .ok (.ifCond .eq 9, 3) := by decide +kernel
theorem dX4_takeLine_37 : decode cX4_takeLine 37 = .ok (.aload_n 0, 1) := by decide +kernel
theorem dX4_takeLine_38 : decode cX4_takeLine 38 = .ok (.iconst 4, 1) := by decide +kernel
theorem dX4_takeLine_39 : decode cX4_takeLine 39 = .ok (.invokevirtual 62, 3) := by decide +kernel
theorem dX4_takeLine_42 : decode cX4_takeLine 42 = .ok (.ireturn, 1) := by decide +kernel
theorem dX4_takeLine_43 : decode cX4_takeLine 43 = .ok (.aload_n 0, 1) := by decide +kernel
theorem dX4_takeLine_44 : decode cX4_takeLine 44 = .ok (.dup, 1) := by decide +kernel
theorem dX4_takeLine_45 : decode cX4_takeLine 45 = .ok (.getfield 40, 3) := by decide +kernel
theorem dX4_takeLine_48 : decode cX4_takeLine 48 = .ok (.iload_n 2, 1) := by decide +kernel
theorem dX4_takeLine_49 : decode cX4_takeLine 49 = .ok (.ior, 1) := by decide +kernel
theorem dX4_takeLine_50 : decode cX4_takeLine 50 = .ok (.putfield 40, 3) := by decide +kernel
theorem dX4_takeLine_53 : decode cX4_takeLine 53 = .ok (.iload_n 1, 1) := by decide +kernel
theorem dX4_takeLine_54 : decode cX4_takeLine 54 = .ok (.ifCond .eq 8, 3) := by decide +kernel
theorem dX4_takeLine_57 : decode cX4_takeLine 57 = .ok (.iload_n 1, 1) := by decide +kernel
theorem dX4_takeLine_58 : decode cX4_takeLine 58 = .ok (.iconst 1, 1) := by decide +kernel
theorem dX4_takeLine_59 : decode cX4_takeLine 59 = .ok (.if_icmp .ne 40, 3) := by decide +kernel
theorem dX4_takeLine_62 : decode cX4_takeLine 62 = .ok (.aload_n 0, 1) := by decide +kernel
theorem dX4_takeLine_63 : decode cX4_takeLine 63 = .ok (.iconst 1, 1) := by decide +kernel
theorem dX4_takeLine_64 : decode cX4_takeLine 64 = .ok (.iload_n 1, 1) := by decide +kernel
theorem dX4_takeLine_65 : decode cX4_takeLine 65 = .ok (.iconst 1, 1) := by decide +kernel
theorem dX4_takeLine_66 : decode cX4_takeLine 66 = .ok (.if_icmp .ne 7, 3) := by decide +kernel
theorem dX4_takeLine_69 : decode cX4_takeLine 69 = .ok (.iconst 1, 1) := by decide +kernel
theorem dX4_takeLine_70 : decode cX4_takeLine 70 = .ok (.goto 4, 3) := by decide +kernel
theorem dX4_takeLine_73 : decode cX4_takeLine 73 = .ok (.iconst 0, 1) := by decide +kernel
theorem dX4_takeLine_74 : decode cX4_takeLine 74 = .ok (.invokevirtual 65, 3) := by decide +kernel
theorem dX4_takeLine_77 : decode cX4_takeLine 77 = .ok (.aload_n 0, 1) := by decide +kernel
theorem dX4_takeLine_78 : decode cX4_takeLine 78 = .ok (.iconst 0, 1) := by decide +kernel
theorem dX4_takeLine_79 : decode cX4_takeLine 79 = .ok (.iload_n 1, 1) := by decide +kernel
theorem dX4_takeLine_80 : decode cX4_takeLine 80 = .ok (.iconst 1, 1) := by decide +kernel
theorem dX4_takeLine_81 : decode cX4_takeLine 81 = .ok (.if_icmp .ne 7, 3) := by decide +kernel
theorem dX4_takeLine_84 : decode cX4_takeLine 84 = .ok (.iconst 1, 1) := by decide +kernel
theorem dX4_takeLine_85 : decode cX4_takeLine 85 = .ok (.goto 4, 3) := by decide +kernel
theorem dX4_takeLine_88 : decode cX4_takeLine 88 = .ok (.iconst 2, 1) := by decide +kernel
theorem dX4_takeLine_89 : decode cX4_takeLine 89 = .ok (.bipush 6, 2) := by decide +kernel
theorem dX4_takeLine_91 : decode cX4_takeLine 91 = .ok (.invokevirtual 68, 3) := by decide +kernel
theorem dX4_takeLine_94 : decode cX4_takeLine 94 = .ok (.ifCond .ne 36, 3) := by decide +kernel
theorem dX4_takeLine_97 : decode cX4_takeLine 97 = .ok (.iconst 0, 1) := by decide +kernel
theorem dX4_takeLine_98 : decode cX4_takeLine 98 = .ok (.ireturn, 1) := by decide +kernel
theorem dX4_takeLine_99 : decode cX4_takeLine 99 = .ok (.iload_n 1, 1) := by decide +kernel
theorem dX4_takeLine_100 : decode cX4_takeLine 100 = .ok (.invokestatic 72, 3) := by decide +kernel
theorem dX4_takeLine_103 : decode cX4_takeLine 103 = .ok (.istore_n 3, 1) := by decide +kernel
theorem dX4_takeLine_104 : decode cX4_takeLine 104 = .ok (.aload_n 0, 1) := by decide +kernel
theorem dX4_takeLine_105 : decode cX4_takeLine 105 = .ok (.iload_n 3, 1) := by decide +kernel
theorem dX4_takeLine_106 : decode cX4_takeLine 106 = .ok (.iconst 0, 1) := by decide +kernel
theorem dX4_takeLine_107 : decode cX4_takeLine 107 = .ok (.bipush 9, 2) := by decide +kernel
theorem dX4_takeLine_109 : decode cX4_takeLine 109 = .ok (.invokevirtual 68, 3) := by decide +kernel
theorem dX4_takeLine_112 : decode cX4_takeLine 112 = .ok (.ifCond .eq 16, 3) := by decide +kernel
theorem dX4_takeLine_115 : decode cX4_takeLine 115 = .ok (.aload_n 0, 1) := by decide +kernel
theorem dX4_takeLine_116 : decode cX4_takeLine 116 = .ok (.iload_n 3, 1) := by decide +kernel
theorem dX4_takeLine_117 : decode cX4_takeLine 117 = .ok (.iconst 1, 1) := by decide +kernel
theorem dX4_takeLine_118 : decode cX4_takeLine 118 = .ok (.iadd, 1) := by decide +kernel
theorem dX4_takeLine_119 : decode cX4_takeLine 119 = .ok (.iconst 0, 1) := by decide +kernel
theorem dX4_takeLine_120 : decode cX4_takeLine 120 = .ok (.bipush 9, 2) := by decide +kernel
theorem dX4_takeLine_122 : decode cX4_takeLine 122 = .ok (.invokevirtual 68, 3) := by decide +kernel
theorem dX4_takeLine_125 : decode cX4_takeLine 125 = .ok (.ifCond .ne 5, 3) := by decide +kernel
theorem dX4_takeLine_128 : decode cX4_takeLine 128 = .ok (.iconst 0, 1) := by decide +kernel
theorem dX4_takeLine_129 : decode cX4_takeLine 129 = .ok (.ireturn, 1) := by decide +kernel
theorem dX4_takeLine_130 : decode cX4_takeLine 130 = .ok (.aload_n 0, 1) := by decide +kernel
theorem dX4_takeLine_131 : decode cX4_takeLine 131 = .ok (.invokevirtual 45, 3) := by decide +kernel
theorem dX4_takeLine_134 : decode cX4_takeLine 134 = .ok (.aload_n 0, 1) := by decide +kernel
theorem dX4_takeLine_135 : decode cX4_takeLine 135 = .ok (.iconst 3, 1) := by decide +kernel
theorem dX4_takeLine_136 : decode cX4_takeLine 136 = .ok (.invokevirtual 55, 3) := by decide +kernel
theorem dX4_takeLine_139 : decode cX4_takeLine 139 = .ok (.ireturn, 1) := by decide +kernel
theorem dX4_firstValue_0 : decode cX4_firstValue 0 = .ok (.iload_n 0, 1) := by decide +kernel
theorem dX4_firstValue_1 : decode cX4_firstValue 1 = .ok (.lookupswitch 31 #[(2, 27), (3, 29)], 27) := by decide +kernel
theorem dX4_firstValue_28 : decode cX4_firstValue 28 = .ok (.iconst 2, 1) := by decide +kernel
theorem dX4_firstValue_29 : decode cX4_firstValue 29 = .ok (.ireturn, 1) := by decide +kernel
theorem dX4_firstValue_30 : decode cX4_firstValue 30 = .ok (.iconst 4, 1) := by decide +kernel
theorem dX4_firstValue_31 : decode cX4_firstValue 31 = .ok (.ireturn, 1) := by decide +kernel
theorem dX4_firstValue_32 : decode cX4_firstValue 32 = .ok (.bipush 6, 2) := by decide +kernel
theorem dX4_firstValue_34 : decode cX4_firstValue 34 = .ok (.ireturn, 1) := by decide +kernel
theorem dX4_takeNumber_0 : decode cX4_takeNumber 0 = .ok (.aload_n 0, 1) := by decide +kernel
theorem dX4_takeNumber_1 : decode cX4_takeNumber 1 = .ok (.invokevirtual 45, 3) := by decide +kernel
theorem dX4_takeNumber_4 : decode cX4_takeNumber 4 = .ok (.aload_n 0, 1) := by decide +kernel
theorem dX4_takeNumber_5 : decode cX4_takeNumber 5 = .ok (.iconst 2, 1) := by decide +kernel
theorem dX4_takeNumber_6 : decode cX4_takeNumber 6 = .ok (.invokevirtual 55, 3) := by decide +kernel
theorem dX4_takeNumber_9 : decode cX4_takeNumber 9 = .ok (.ifCond .ne 5, 3) := by decide +kernel
theorem dX4_takeNumber_12 : decode cX4_takeNumber 12 = .ok (.iconst 0, 1) := by decide +kernel
theorem dX4_takeNumber_13 : decode cX4_takeNumber 13 = .ok (.ireturn, 1) := by decide +kernel
theorem dX4_takeNumber_14 : decode cX4_takeNumber 14 = .ok (.aload_n 0, 1) := by decide +kernel
theorem dX4_takeNumber_15 : decode cX4_takeNumber 15 = .ok (.getfield 59, 3) := by decide +kernel
theorem dX4_takeNumber_18 : decode cX4_takeNumber 18 = .ok (.iload_n 2, 1) := by decide +kernel
theorem dX4_takeNumber_19 : decode cX4_takeNumber 19 = .ok (.if_icmp .lt 11, 3) := by decide +kernel
theorem dX4_takeNumber_22 : decode cX4_takeNumber 22 = .ok (.aload_n 0, 1) := by decide +kernel
theorem dX4_takeNumber_23 : decode cX4_takeNumber 23 = .ok (.getfield 59, 3) := by decide +kernel
theorem dX4_takeNumber_26 : decode cX4_takeNumber 26 = .ok (.iload_n 3, 1) := by decide +kernel
theorem dX4_takeNumber_27 : decode cX4_takeNumber 27 = .ok (.if_icmp .le 9, 3) := by decide +kernel
theorem dX4_takeNumber_30 : decode cX4_takeNumber 30 = .ok (.aload_n 0, 1) := by decide +kernel
theorem dX4_takeNumber_31 : decode cX4_takeNumber 31 = .ok (.iconst 3, 1) := by decide +kernel
theorem dX4_takeNumber_32 : decode cX4_takeNumber 32 = .ok (.invokevirtual 62, 3) := by decide +kernel
theorem dX4_takeNumber_35 : decode cX4_takeNumber 35 = .ok (.ireturn, 1) := by decide +kernel
theorem dX4_takeNumber_36 : decode cX4_takeNumber 36 = .ok (.aload_n 0, 1) := by decide +kernel
theorem dX4_takeNumber_37 : decode cX4_takeNumber 37 = .ok (.iload_n 1, 1) := by decide +kernel
theorem dX4_takeNumber_38 : decode cX4_takeNumber 38 = .ok (.aload_n 0, 1) := by decide +kernel
theorem dX4_takeNumber_39 : decode cX4_takeNumber 39 = .ok (.getfield 59, 3) := by decide +kernel
theorem dX4_takeNumber_42 : decode cX4_takeNumber 42 = .ok (.invokevirtual 65, 3) := by decide +kernel
theorem dX4_takeNumber_45 : decode cX4_takeNumber 45 = .ok (.iconst 1, 1) := by decide +kernel
theorem dX4_takeNumber_46 : decode cX4_takeNumber 46 = .ok (.ireturn, 1) := by decide +kernel
theorem dX4_tellFresh_0 : decode cX4_tellFresh 0 = .ok (.iload_n 1, 1) := by decide +kernel
theorem dX4_tellFresh_1 : decode cX4_tellFresh 1 = .ok (.ifCond .lt 19, 3) := by decide +kernel
theorem dX4_tellFresh_4 : decode cX4_tellFresh 4 = .ok (.iload_n 1, 1) := by decide +kernel
theorem dX4_tellFresh_5 : decode cX4_tellFresh 5 = .ok (.aload_n 0, 1) := by decide +kernel
theorem dX4_tellFresh_6 : decode cX4_tellFresh 6 = .ok (.getfield 9, 3) := by decide +kernel
theorem dX4_tellFresh_9 : decode cX4_tellFresh 9 = .ok (.arraylength, 1) := by decide +kernel
theorem dX4_tellFresh_10 : decode cX4_tellFresh 10 = .ok (.if_icmp .ge 10, 3) := by decide +kernel
theorem dX4_tellFresh_13 : decode cX4_tellFresh 13 = .ok (.aload_n 0, 1) := by decide +kernel
theorem dX4_tellFresh_14 : decode cX4_tellFresh 14 = .ok (.getfield 9, 3) := by decide +kernel
theorem dX4_tellFresh_17 : decode cX4_tellFresh 17 = .ok (.iload_n 1, 1) := by decide +kernel
theorem dX4_tellFresh_18 : decode cX4_tellFresh 18 = .ok (.iload_n 2, 1) := by decide +kernel
theorem dX4_tellFresh_19 : decode cX4_tellFresh 19 = .ok (.iastore, 1) := by decide +kernel
theorem dX4_tellFresh_20 : decode cX4_tellFresh 20 = .ok (.return_, 1) := by decide +kernel
theorem dX4_expect_0 : decode cX4_expect 0 = .ok (.aload_n 0, 1) := by decide +kernel
theorem dX4_expect_1 : decode cX4_expect 1 = .ok (.getfield 48, 3) := by decide +kernel
theorem dX4_expect_4 : decode cX4_expect 4 = .ok (.iload_n 1, 1) := by decide +kernel
theorem dX4_expect_5 : decode cX4_expect 5 = .ok (.if_icmp .ne 5, 3) := by decide +kernel
theorem dX4_expect_8 : decode cX4_expect 8 = .ok (.iconst 1, 1) := by decide +kernel
theorem dX4_expect_9 : decode cX4_expect 9 = .ok (.ireturn, 1) := by decide +kernel
theorem dX4_expect_10 : decode cX4_expect 10 = .ok (.aload_n 0, 1) := by decide +kernel
theorem dX4_expect_11 : decode cX4_expect 11 = .ok (.aload_n 0, 1) := by decide +kernel
theorem dX4_expect_12 : decode cX4_expect 12 = .ok (.getfield 48, 3) := by decide +kernel
theorem dX4_expect_15 : decode cX4_expect 15 = .ok (.ifCond .ne 7, 3) := by decide +kernel
theorem dX4_expect_18 : decode cX4_expect 18 = .ok (.iconst 1, 1) := by decide +kernel
theorem dX4_expect_19 : decode cX4_expect 19 = .ok (.goto 4, 3) := by decide +kernel
theorem dX4_expect_22 : decode cX4_expect 22 = .ok (.iconst 2, 1) := by decide +kernel
theorem dX4_expect_23 : decode cX4_expect 23 = .ok (.invokevirtual 62, 3) := by decide +kernel
theorem dX4_expect_26 : decode cX4_expect 26 = .ok (.ireturn, 1) := by decide +kernel
theorem dX4_refuse_0 : decode cX4_refuse 0 = .ok (.aload_n 0, 1) := by decide +kernel
theorem dX4_refuse_1 : decode cX4_refuse 1 = .ok (.iload_n 1, 1) := by decide +kernel
theorem dX4_refuse_2 : decode cX4_refuse 2 = .ok (.putfield 19, 3) := by decide +kernel
theorem dX4_refuse_5 : decode cX4_refuse 5 = .ok (.iconst 0, 1) := by decide +kernel
theorem dX4_refuse_6 : decode cX4_refuse 6 = .ok (.ireturn, 1) := by decide +kernel
theorem dX4_readToken_0 : decode cX4_readToken 0 = .ok (.iconst 0, 1) := by decide +kernel
theorem dX4_readToken_1 : decode cX4_readToken 1 = .ok (.istore_n 1, 1) := by decide +kernel
theorem dX4_readToken_2 : decode cX4_readToken 2 = .ok (.iload_n 1, 1) := by decide +kernel
theorem dX4_readToken_3 : decode cX4_readToken 3 = .ok (.bipush 120, 2) := by decide +kernel
theorem dX4_readToken_5 : decode cX4_readToken 5 = .ok (.if_icmp .ge 35, 3) := by decide +kernel
theorem dX4_readToken_8 : decode cX4_readToken 8 = .ok (.aload_n 0, 1) := by decide +kernel
theorem dX4_readToken_9 : decode cX4_readToken 9 = .ok (.getfield 15, 3) := by decide +kernel
theorem dX4_readToken_12 : decode cX4_readToken 12 = .ok (.aload_n 0, 1) := by decide +kernel
theorem dX4_readToken_13 : decode cX4_readToken 13 = .ok (.getfield 37, 3) := by decide +kernel
theorem dX4_readToken_16 : decode cX4_readToken 16 = .ok (.invokevirtual 75, 3) := by decide +kernel
theorem dX4_readToken_19 : decode cX4_readToken 19 = .ok (.bipush 32, 2) := by decide +kernel
theorem dX4_readToken_21 : decode cX4_readToken 21 = .ok (.if_icmp .ne 19, 3) := by decide +kernel
theorem dX4_readToken_24 : decode cX4_readToken 24 = .ok (.aload_n 0, 1) := by decide +kernel
theorem dX4_readToken_25 : decode cX4_readToken 25 = .ok (.dup, 1) := by decide +kernel
theorem dX4_readToken_26 : decode cX4_readToken 26 = .ok (.getfield 37, 3) := by decide +kernel
theorem dX4_readToken_29 : decode cX4_readToken 29 = .ok (.iconst 1, 1) := by decide +kernel
theorem dX4_readToken_30 : decode cX4_readToken 30 = .ok (.iadd, 1) := by decide +kernel
theorem dX4_readToken_31 : decode cX4_readToken 31 = .ok (.putfield 37, 3) := by decide +kernel
theorem dX4_readToken_34 : decode cX4_readToken 34 = .ok (.iinc 1 1, 3) := by decide +kernel
theorem dX4_readToken_37 : decode cX4_readToken 37 = .ok (.goto (-35), 3) := by decide +kernel
theorem dX4_readToken_40 : decode cX4_readToken 40 = .ok (.aload_n 0, 1) := by decide +kernel
theorem dX4_readToken_41 : decode cX4_readToken 41 = .ok (.aload_n 0, 1) := by decide +kernel
theorem dX4_readToken_42 : decode cX4_readToken 42 = .ok (.getfield 37, 3) := by decide +kernel
theorem dX4_readToken_45 : decode cX4_readToken 45 = .ok (.putfield 23, 3) := by decide +kernel
theorem dX4_readToken_48 : decode cX4_readToken 48 = .ok (.aload_n 0, 1) := by decide +kernel
theorem dX4_readToken_49 : decode cX4_readToken 49 = .ok (.getfield 15, 3) := by decide +kernel
theorem dX4_readToken_52 : decode cX4_readToken 52 = .ok (.aload_n 0, 1) := by decide +kernel
theorem dX4_readToken_53 : decode cX4_readToken 53 = .ok (.getfield 37, 3) := by decide +kernel
theorem dX4_readToken_56 : decode cX4_readToken 56 = .ok (.invokevirtual 75, 3) := by decide +kernel
theorem dX4_readToken_59 : decode cX4_readToken 59 = .ok (.istore_n 1, 1) := by decide +kernel
theorem dX4_readToken_60 : decode cX4_readToken 60 = .ok (.iload_n 1, 1) := by decide +kernel
theorem dX4_readToken_61 : decode cX4_readToken 61 = .ok (.iconst (-1), 1) := by decide +kernel
theorem dX4_readToken_62 : decode cX4_readToken 62 = .ok (.if_icmp .ne 11, 3) := by decide +kernel
theorem dX4_readToken_65 : decode cX4_readToken 65 = .ok (.aload_n 0, 1) := by decide +kernel
theorem dX4_readToken_66 : decode cX4_readToken 66 = .ok (.iconst 4, 1) := by decide +kernel
theorem dX4_readToken_67 : decode cX4_readToken 67 = .ok (.putfield 48, 3) := by decide +kernel
theorem dX4_readToken_70 : decode cX4_readToken 70 = .ok (.goto 60, 3) := by decide +kernel
theorem dX4_readToken_73 : decode cX4_readToken 73 = .ok (.iload_n 1, 1) := by decide +kernel
theorem dX4_readToken_74 : decode cX4_readToken 74 = .ok (.bipush 59, 2) := by decide +kernel
theorem dX4_readToken_76 : decode cX4_readToken 76 = .ok (.if_icmp .ne 21, 3) := by decide +kernel
theorem dX4_readToken_79 : decode cX4_readToken 79 = .ok (.aload_n 0, 1) := by decide +kernel
theorem dX4_readToken_80 : decode cX4_readToken 80 = .ok (.iconst 3, 1) := by decide +kernel
theorem dX4_readToken_81 : decode cX4_readToken 81 = .ok (.putfield 48, 3) := by decide +kernel
theorem dX4_readToken_84 : decode cX4_readToken 84 = .ok (.aload_n 0, 1) := by decide +kernel
theorem dX4_readToken_85 : decode cX4_readToken 85 = .ok (.dup, 1) := by decide +kernel
theorem dX4_readToken_86 : decode cX4_readToken 86 = .ok (.getfield 37, 3) := by decide +kernel
theorem dX4_readToken_89 : decode cX4_readToken 89 = .ok (.iconst 1, 1) := by decide +kernel
theorem dX4_readToken_90 : decode cX4_readToken 90 = .ok (.iadd, 1) := by decide +kernel
theorem dX4_readToken_91 : decode cX4_readToken 91 = .ok (.putfield 37, 3) := by decide +kernel
theorem dX4_readToken_94 : decode cX4_readToken 94 = .ok (.goto 36, 3) := by decide +kernel
theorem dX4_readToken_97 : decode cX4_readToken 97 = .ok (.iload_n 1, 1) := by decide +kernel
theorem dX4_readToken_98 : decode cX4_readToken 98 = .ok (.invokestatic 78, 3) := by decide +kernel
theorem dX4_readToken_101 : decode cX4_readToken 101 = .ok (.ifCond .eq 10, 3) := by decide +kernel
theorem dX4_readToken_104 : decode cX4_readToken 104 = .ok (.aload_n 0, 1) := by decide +kernel
theorem dX4_readToken_105 : decode cX4_readToken 105 = .ok (.invokevirtual 81, 3) := by decide +kernel
theorem dX4_readToken_108 : decode cX4_readToken 108 = .ok (.goto 22, 3) := by decide +kernel
theorem dX4_readToken_111 : decode cX4_readToken 111 = .ok (.iload_n 1, 1) := by decide +kernel
theorem dX4_readToken_112 : decode cX4_readToken 112 = .ok (.invokestatic 84, 3) := by decide +kernel
theorem dX4_readToken_115 : decode cX4_readToken 115 = .ok (.ifCond .eq 10, 3) := by decide +kernel
theorem dX4_readToken_118 : decode cX4_readToken 118 = .ok (.aload_n 0, 1) := by decide +kernel
theorem dX4_readToken_119 : decode cX4_readToken 119 = .ok (.invokevirtual 87, 3) := by decide +kernel
theorem dX4_readToken_122 : decode cX4_readToken 122 = .ok (.goto 8, 3) := by decide +kernel
theorem dX4_readToken_125 : decode cX4_readToken 125 = .ok (.aload_n 0, 1) := by decide +kernel
theorem dX4_readToken_126 : decode cX4_readToken 126 = .ok (.iconst 0, 1) := by decide +kernel
theorem dX4_readToken_127 : decode cX4_readToken 127 = .ok (.putfield 48, 3) := by decide +kernel
theorem dX4_readToken_130 : decode cX4_readToken 130 = .ok (.return_, 1) := by decide +kernel
theorem dX4_readName_0 : decode cX4_readName 0 = .ok (.iconst 0, 1) := by decide +kernel
theorem dX4_readName_1 : decode cX4_readName 1 = .ok (.istore_n 1, 1) := by decide +kernel
theorem dX4_readName_2 : decode cX4_readName 2 = .ok (.iconst 0, 1) := by decide +kernel
theorem dX4_readName_3 : decode cX4_readName 3 = .ok (.istore_n 2, 1) := by decide +kernel
theorem dX4_readName_4 : decode cX4_readName 4 = .ok (.iload_n 2, 1) := by decide +kernel
theorem dX4_readName_5 : decode cX4_readName 5 = .ok (.bipush 120, 2) := by decide +kernel
theorem dX4_readName_7 : decode cX4_readName 7 = .ok (.if_icmp .ge 53, 3) := by decide +kernel
theorem dX4_readName_10 : decode cX4_readName 10 = .ok (.aload_n 0, 1) := by decide +kernel
theorem dX4_readName_11 : decode cX4_readName 11 = .ok (.getfield 15, 3) := by decide +kernel
theorem dX4_readName_14 : decode cX4_readName 14 = .ok (.aload_n 0, 1) := by decide +kernel
theorem dX4_readName_15 : decode cX4_readName 15 = .ok (.getfield 37, 3) := by decide +kernel
theorem dX4_readName_18 : decode cX4_readName 18 = .ok (.invokevirtual 75, 3) := by decide +kernel
theorem dX4_readName_21 : decode cX4_readName 21 = .ok (.invokestatic 78, 3) := by decide +kernel
theorem dX4_readName_24 : decode cX4_readName 24 = .ok (.ifCond .eq 36, 3) := by decide +kernel
theorem dX4_readName_27 : decode cX4_readName 27 = .ok (.iload_n 1, 1) := by decide +kernel
theorem dX4_readName_28 : decode cX4_readName 28 = .ok (.bipush 8, 2) := by decide +kernel
theorem dX4_readName_30 : decode cX4_readName 30 = .ok (.ishl, 1) := by decide +kernel
theorem dX4_readName_31 : decode cX4_readName 31 = .ok (.aload_n 0, 1) := by decide +kernel
theorem dX4_readName_32 : decode cX4_readName 32 = .ok (.getfield 15, 3) := by decide +kernel
theorem dX4_readName_35 : decode cX4_readName 35 = .ok (.aload_n 0, 1) := by decide +kernel
theorem dX4_readName_36 : decode cX4_readName 36 = .ok (.getfield 37, 3) := by decide +kernel
theorem dX4_readName_39 : decode cX4_readName 39 = .ok (.invokevirtual 75, 3) := by decide +kernel
theorem dX4_readName_42 : decode cX4_readName 42 = .ok (.ior, 1) := by decide +kernel
theorem dX4_readName_43 : decode cX4_readName 43 = .ok (.istore_n 1, 1) := by decide +kernel
theorem dX4_readName_44 : decode cX4_readName 44 = .ok (.aload_n 0, 1) := by decide +kernel
theorem dX4_readName_45 : decode cX4_readName 45 = .ok (.dup, 1) := by decide +kernel
theorem dX4_readName_46 : decode cX4_readName 46 = .ok (.getfield 37, 3) := by decide +kernel
theorem dX4_readName_49 : decode cX4_readName 49 = .ok (.iconst 1, 1) := by decide +kernel
theorem dX4_readName_50 : decode cX4_readName 50 = .ok (.iadd, 1) := by decide +kernel
theorem dX4_readName_51 : decode cX4_readName 51 = .ok (.putfield 37, 3) := by decide +kernel
theorem dX4_readName_54 : decode cX4_readName 54 = .ok (.iinc 2 1, 3) := by decide +kernel
theorem dX4_readName_57 : decode cX4_readName 57 = .ok (.goto (-53), 3) := by decide +kernel
theorem dX4_readName_60 : decode cX4_readName 60 = .ok (.aload_n 0, 1) := by decide +kernel
theorem dX4_readName_61 : decode cX4_readName 61 = .ok (.iload_n 1, 1) := by decide +kernel
theorem dX4_readName_62 : decode cX4_readName 62 = .ok (.invokestatic 90, 3) := by decide +kernel
theorem dX4_readName_65 : decode cX4_readName 65 = .ok (.putfield 59, 3) := by decide +kernel
theorem dX4_readName_68 : decode cX4_readName 68 = .ok (.aload_n 0, 1) := by decide +kernel
theorem dX4_readName_69 : decode cX4_readName 69 = .ok (.aload_n 0, 1) := by decide +kernel
theorem dX4_readName_70 : decode cX4_readName 70 = .ok (.getfield 59, 3) := by decide +kernel
theorem dX4_readName_73 : decode cX4_readName 73 = .ok (.iconst 5, 1) := by decide +kernel
theorem dX4_readName_74 : decode cX4_readName 74 = .ok (.if_icmp .eq 20, 3) := by decide +kernel
theorem dX4_readName_77 : decode cX4_readName 77 = .ok (.aload_n 0, 1) := by decide +kernel
theorem dX4_readName_78 : decode cX4_readName 78 = .ok (.getfield 37, 3) := by decide +kernel
theorem dX4_readName_81 : decode cX4_readName 81 = .ok (.aload_n 0, 1) := by decide +kernel
theorem dX4_readName_82 : decode cX4_readName 82 = .ok (.getfield 23, 3) := by decide +kernel
theorem dX4_readName_85 : decode cX4_readName 85 = .ok (.isub, 1) := by decide +kernel
theorem dX4_readName_86 : decode cX4_readName 86 = .ok (.iconst 4, 1) := by decide +kernel
theorem dX4_readName_87 : decode cX4_readName 87 = .ok (.if_icmp .gt 7, 3) := by decide +kernel
theorem dX4_readName_90 : decode cX4_readName 90 = .ok (.iconst 1, 1) := by decide +kernel
theorem dX4_readName_91 : decode cX4_readName 91 = .ok (.goto 4, 3) := by decide +kernel
theorem dX4_readName_94 : decode cX4_readName 94 = .ok (.iconst 0, 1) := by decide +kernel
theorem dX4_readName_95 : decode cX4_readName 95 = .ok (.putfield 48, 3) := by decide +kernel
theorem dX4_readName_98 : decode cX4_readName 98 = .ok (.return_, 1) := by decide +kernel
theorem dX4_nameOf_0 : decode cX4_nameOf 0 = .ok (.iload_n 0, 1) := by decide +kernel
theorem dX4_nameOf_1 : decode cX4_nameOf 1 = .ok (.lookupswitch 61 #[(26990, 57), (6844272, 55), (7304564, 59), (1869636974, 53), (1919512167, 51)], 51) := by decide +kernel
theorem dX4_nameOf_52 : decode cX4_nameOf 52 = .ok (.iconst 0, 1) := by decide +kernel
theorem dX4_nameOf_53 : decode cX4_nameOf 53 = .ok (.ireturn, 1) := by decide +kernel
theorem dX4_nameOf_54 : decode cX4_nameOf 54 = .ok (.iconst 1, 1) := by decide +kernel
theorem dX4_nameOf_55 : decode cX4_nameOf 55 = .ok (.ireturn, 1) := by decide +kernel
theorem dX4_nameOf_56 : decode cX4_nameOf 56 = .ok (.iconst 2, 1) := by decide +kernel
theorem dX4_nameOf_57 : decode cX4_nameOf 57 = .ok (.ireturn, 1) := by decide +kernel
theorem dX4_nameOf_58 : decode cX4_nameOf 58 = .ok (.iconst 3, 1) := by decide +kernel
theorem dX4_nameOf_59 : decode cX4_nameOf 59 = .ok (.ireturn, 1) := by decide +kernel
theorem dX4_nameOf_60 : decode cX4_nameOf 60 = .ok (.iconst 4, 1) := by decide +kernel
theorem dX4_nameOf_61 : decode cX4_nameOf 61 = .ok (.ireturn, 1) := by decide +kernel
theorem dX4_nameOf_62 : decode cX4_nameOf 62 = .ok (.iconst 5, 1) := by decide +kernel
theorem dX4_nameOf_63 : decode cX4_nameOf 63 = .ok (.ireturn, 1) := by decide +kernel
theorem dX4_readNumber_0 : decode cX4_readNumber 0 = .ok (.aload_n 0, 1) := by decide +kernel
theorem dX4_readNumber_1 : decode cX4_readNumber 1 = .ok (.iconst 0, 1) := by decide +kernel
theorem dX4_readNumber_2 : decode cX4_readNumber 2 = .ok (.putfield 59, 3) := by decide +kernel
theorem dX4_readNumber_5 : decode cX4_readNumber 5 = .ok (.iconst 0, 1) := by decide +kernel
theorem dX4_readNumber_6 : decode cX4_readNumber 6 = .ok (.istore_n 1, 1) := by decide +kernel
theorem dX4_readNumber_7 : decode cX4_readNumber 7 = .ok (.iload_n 1, 1) := by decide +kernel
theorem dX4_readNumber_8 : decode cX4_readNumber 8 = .ok (.bipush 120, 2) := by decide +kernel
theorem dX4_readNumber_10 : decode cX4_readNumber 10 = .ok (.if_icmp .ge 62, 3) := by decide +kernel
theorem dX4_readNumber_13 : decode cX4_readNumber 13 = .ok (.aload_n 0, 1) := by decide +kernel
theorem dX4_readNumber_14 : decode cX4_readNumber 14 = .ok (.getfield 15, 3) := by decide +kernel
theorem dX4_readNumber_17 : decode cX4_readNumber 17 = .ok (.aload_n 0, 1) := by decide +kernel
theorem dX4_readNumber_18 : decode cX4_readNumber 18 = .ok (.getfield 37, 3) := by decide +kernel
theorem dX4_readNumber_21 : decode cX4_readNumber 21 = .ok (.invokevirtual 75, 3) := by decide +kernel
theorem dX4_readNumber_24 : decode cX4_readNumber 24 = .ok (.invokestatic 84, 3) := by decide +kernel
theorem dX4_readNumber_27 : decode cX4_readNumber 27 = .ok (.ifCond .eq 45, 3) := by decide +kernel
theorem dX4_readNumber_30 : decode cX4_readNumber 30 = .ok (.aload_n 0, 1) := by decide +kernel
theorem dX4_readNumber_31 : decode cX4_readNumber 31 = .ok (.aload_n 0, 1) := by decide +kernel
theorem dX4_readNumber_32 : decode cX4_readNumber 32 = .ok (.getfield 59, 3) := by decide +kernel
theorem dX4_readNumber_35 : decode cX4_readNumber 35 = .ok (.bipush 10, 2) := by decide +kernel
theorem dX4_readNumber_37 : decode cX4_readNumber 37 = .ok (.imul, 1) := by decide +kernel
theorem dX4_readNumber_38 : decode cX4_readNumber 38 = .ok (.aload_n 0, 1) := by decide +kernel
theorem dX4_readNumber_39 : decode cX4_readNumber 39 = .ok (.getfield 15, 3) := by decide +kernel
theorem dX4_readNumber_42 : decode cX4_readNumber 42 = .ok (.aload_n 0, 1) := by decide +kernel
theorem dX4_readNumber_43 : decode cX4_readNumber 43 = .ok (.getfield 37, 3) := by decide +kernel
theorem dX4_readNumber_46 : decode cX4_readNumber 46 = .ok (.invokevirtual 75, 3) := by decide +kernel
theorem dX4_readNumber_49 : decode cX4_readNumber 49 = .ok (.iadd, 1) := by decide +kernel
theorem dX4_readNumber_50 : decode cX4_readNumber 50 = .ok (.bipush 48, 2) := by decide +kernel
theorem dX4_readNumber_52 : decode cX4_readNumber 52 = .ok (.isub, 1) := by decide +kernel
theorem dX4_readNumber_53 : decode cX4_readNumber 53 = .ok (.putfield 59, 3) := by decide +kernel
theorem dX4_readNumber_56 : decode cX4_readNumber 56 = .ok (.aload_n 0, 1) := by decide +kernel
theorem dX4_readNumber_57 : decode cX4_readNumber 57 = .ok (.dup, 1) := by decide +kernel
theorem dX4_readNumber_58 : decode cX4_readNumber 58 = .ok (.getfield 37, 3) := by decide +kernel
theorem dX4_readNumber_61 : decode cX4_readNumber 61 = .ok (.iconst 1, 1) := by decide +kernel
theorem dX4_readNumber_62 : decode cX4_readNumber 62 = .ok (.iadd, 1) := by decide +kernel
theorem dX4_readNumber_63 : decode cX4_readNumber 63 = .ok (.putfield 37, 3) := by decide +kernel
theorem dX4_readNumber_66 : decode cX4_readNumber 66 = .ok (.iinc 1 1, 3) := by decide +kernel
theorem dX4_readNumber_69 : decode cX4_readNumber 69 = .ok (.goto (-62), 3) := by decide +kernel
theorem dX4_readNumber_72 : decode cX4_readNumber 72 = .ok (.aload_n 0, 1) := by decide +kernel
theorem dX4_readNumber_73 : decode cX4_readNumber 73 = .ok (.aload_n 0, 1) := by decide +kernel
theorem dX4_readNumber_74 : decode cX4_readNumber 74 = .ok (.getfield 37, 3) := by decide +kernel
theorem dX4_readNumber_77 : decode cX4_readNumber 77 = .ok (.aload_n 0, 1) := by decide +kernel
theorem dX4_readNumber_78 : decode cX4_readNumber 78 = .ok (.getfield 23, 3) := by decide +kernel
theorem dX4_readNumber_81 : decode cX4_readNumber 81 = .ok (.isub, 1) := by decide +kernel
theorem dX4_readNumber_82 : decode cX4_readNumber 82 = .ok (.iconst 2, 1) := by decide +kernel
theorem dX4_readNumber_83 : decode cX4_readNumber 83 = .ok (.if_icmp .gt 7, 3) := by decide +kernel
theorem dX4_readNumber_86 : decode cX4_readNumber 86 = .ok (.iconst 2, 1) := by decide +kernel
theorem dX4_readNumber_87 : decode cX4_readNumber 87 = .ok (.goto 4, 3) := by decide +kernel
theorem dX4_readNumber_90 : decode cX4_readNumber 90 = .ok (.iconst 0, 1) := by decide +kernel
theorem dX4_readNumber_91 : decode cX4_readNumber 91 = .ok (.putfield 48, 3) := by decide +kernel
theorem dX4_readNumber_94 : decode cX4_readNumber 94 = .ok (.return_, 1) := by decide +kernel
theorem dX4_isLetter_0 : decode cX4_isLetter 0 = .ok (.iload_n 0, 1) := by decide +kernel
theorem dX4_isLetter_1 : decode cX4_isLetter 1 = .ok (.bipush 97, 2) := by decide +kernel
theorem dX4_isLetter_3 : decode cX4_isLetter 3 = .ok (.if_icmp .lt 13, 3) := by decide +kernel
theorem dX4_isLetter_6 : decode cX4_isLetter 6 = .ok (.iload_n 0, 1) := by decide +kernel
theorem dX4_isLetter_7 : decode cX4_isLetter 7 = .ok (.bipush 122, 2) := by decide +kernel
theorem dX4_isLetter_9 : decode cX4_isLetter 9 = .ok (.if_icmp .gt 7, 3) := by decide +kernel
theorem dX4_isLetter_12 : decode cX4_isLetter 12 = .ok (.iconst 1, 1) := by decide +kernel
theorem dX4_isLetter_13 : decode cX4_isLetter 13 = .ok (.goto 4, 3) := by decide +kernel
theorem dX4_isLetter_16 : decode cX4_isLetter 16 = .ok (.iconst 0, 1) := by decide +kernel
theorem dX4_isLetter_17 : decode cX4_isLetter 17 = .ok (.ireturn, 1) := by decide +kernel
theorem dX4_isFigure_0 : decode cX4_isFigure 0 = .ok (.iload_n 0, 1) := by decide +kernel
theorem dX4_isFigure_1 : decode cX4_isFigure 1 = .ok (.bipush 48, 2) := by decide +kernel
theorem dX4_isFigure_3 : decode cX4_isFigure 3 = .ok (.if_icmp .lt 13, 3) := by decide +kernel
theorem dX4_isFigure_6 : decode cX4_isFigure 6 = .ok (.iload_n 0, 1) := by decide +kernel
theorem dX4_isFigure_7 : decode cX4_isFigure 7 = .ok (.bipush 57, 2) := by decide +kernel
theorem dX4_isFigure_9 : decode cX4_isFigure 9 = .ok (.if_icmp .gt 7, 3) := by decide +kernel
theorem dX4_isFigure_12 : decode cX4_isFigure 12 = .ok (.iconst 1, 1) := by decide +kernel
theorem dX4_isFigure_13 : decode cX4_isFigure 13 = .ok (.goto 4, 3) := by decide +kernel
theorem dX4_isFigure_16 : decode cX4_isFigure 16 = .ok (.iconst 0, 1) := by decide +kernel
theorem dX4_isFigure_17 : decode cX4_isFigure 17 = .ok (.ireturn, 1) := by decide +kernel
theorem dX5_init_0 : decode cX5_init 0 = .ok (.aload_n 0, 1) := by decide +kernel
theorem dX5_init_1 : decode cX5_init 1 = .ok (.invokespecial 1, 3) := by decide +kernel
theorem dX5_init_4 : decode cX5_init 4 = .ok (.aload_n 0, 1) := by decide +kernel
theorem dX5_init_5 : decode cX5_init 5 = .ok (.bipush 8, 2) := by decide +kernel
theorem dX5_init_7 : decode cX5_init 7 = .ok (.newarray .int, 2) := by decide +kernel
theorem dX5_init_9 : decode cX5_init 9 = .ok (.putfield 9, 3) := by decide +kernel
theorem dX5_init_12 : decode cX5_init 12 = .ok (.aload_n 0, 1) := by decide +kernel
theorem dX5_init_13 : decode cX5_init 13 = .ok (.bipush 8, 2) := by decide +kernel
theorem dX5_init_15 : decode cX5_init 15 = .ok (.newarray .long, 2) := by decide +kernel
theorem dX5_init_17 : decode cX5_init 17 = .ok (.putfield 13, 3) := by decide +kernel
theorem dX5_init_20 : decode cX5_init 20 = .ok (.aload_n 0, 1) := by decide +kernel
theorem dX5_init_21 : decode cX5_init 21 = .ok (.bipush 64, 2) := by decide +kernel
theorem dX5_init_23 : decode cX5_init 23 = .ok (.newarray .long, 2) := by decide +kernel
theorem dX5_init_25 : decode cX5_init 25 = .ok (.putfield 17, 3) := by decide +kernel
theorem dX5_init_28 : decode cX5_init 28 = .ok (.aload_n 0, 1) := by decide +kernel
theorem dX5_init_29 : decode cX5_init 29 = .ok (.bipush 49, 2) := by decide +kernel
theorem dX5_init_31 : decode cX5_init 31 = .ok (.newarray .long, 2) := by decide +kernel
theorem dX5_init_33 : decode cX5_init 33 = .ok (.putfield 20, 3) := by decide +kernel
theorem dX5_init_36 : decode cX5_init 36 = .ok (.aload_n 0, 1) := by decide +kernel
theorem dX5_init_37 : decode cX5_init 37 = .ok (.bipush 64, 2) := by decide +kernel
theorem dX5_init_39 : decode cX5_init 39 = .ok (.newarray .long, 2) := by decide +kernel
theorem dX5_init_41 : decode cX5_init 41 = .ok (.putfield 25, 3) := by decide +kernel
theorem dX5_init_44 : decode cX5_init 44 = .ok (.aload_n 0, 1) := by decide +kernel
theorem dX5_init_45 : decode cX5_init 45 = .ok (.aload_n 1, 1) := by decide +kernel
theorem dX5_init_46 : decode cX5_init 46 = .ok (.putfield 28, 3) := by decide +kernel
theorem dX5_init_49 : decode cX5_init 49 = .ok (.return_, 1) := by decide +kernel
theorem dX5_forget_0 : decode cX5_forget 0 = .ok (.aload_n 0, 1) := by decide +kernel
theorem dX5_forget_1 : decode cX5_forget 1 = .ok (.lconst 0, 1) := by decide +kernel
theorem dX5_forget_2 : decode cX5_forget 2 = .ok (.putfield 32, 3) := by decide +kernel
theorem dX5_forget_5 : decode cX5_forget 5 = .ok (.return_, 1) := by decide +kernel
theorem dX5_weighPart_0 : decode cX5_weighPart 0 = .ok (.lload_n 1, 1) := by decide +kernel
theorem dX5_weighPart_1 : decode cX5_weighPart 1 = .ok (.aload_n 0, 1) := by decide +kernel
theorem dX5_weighPart_2 : decode cX5_weighPart 2 = .ok (.getfield 32, 3) := by decide +kernel
theorem dX5_weighPart_5 : decode cX5_weighPart 5 = .ok (.lcmp, 1) := by decide +kernel
theorem dX5_weighPart_6 : decode cX5_weighPart 6 = .ok (.ifCond .ne 4, 3) := by decide +kernel
theorem dX5_weighPart_9 : decode cX5_weighPart 9 = .ok (.return_, 1) := by decide +kernel
theorem dX5_weighPart_10 : decode cX5_weighPart 10 = .ok (.aload_n 0, 1) := by decide +kernel
theorem dX5_weighPart_11 : decode cX5_weighPart 11 = .ok (.lload_n 1, 1) := by decide +kernel
theorem dX5_weighPart_12 : decode cX5_weighPart 12 = .ok (.putfield 32, 3) := by decide +kernel
theorem dX5_weighPart_15 : decode cX5_weighPart 15 = .ok (.aload_n 0, 1) := by decide +kernel
theorem dX5_weighPart_16 : decode cX5_weighPart 16 = .ok (.lload_n 1, 1) := by decide +kernel
theorem dX5_weighPart_17 : decode cX5_weighPart 17 = .ok (.invokevirtual 36, 3) := by decide +kernel
theorem dX5_weighPart_20 : decode cX5_weighPart 20 = .ok (.aload_n 0, 1) := by decide +kernel
theorem dX5_weighPart_21 : decode cX5_weighPart 21 = .ok (.invokevirtual 40, 3) := by decide +kernel
theorem dX5_weighPart_24 : decode cX5_weighPart 24 = .ok (.aload_n 0, 1) := by decide +kernel
theorem dX5_weighPart_25 : decode cX5_weighPart 25 = .ok (.lconst 0, 1) := by decide +kernel
theorem dX5_weighPart_26 : decode cX5_weighPart 26 = .ok (.putfield 43, 3) := by decide +kernel
theorem dX5_weighPart_29 : decode cX5_weighPart 29 = .ok (.iconst 0, 1) := by decide +kernel
theorem dX5_weighPart_30 : decode cX5_weighPart 30 = .ok (.istore_n 3, 1) := by decide +kernel
theorem dX5_weighPart_31 : decode cX5_weighPart 31 = .ok (.iload_n 3, 1) := by decide +kernel
theorem dX5_weighPart_32 : decode cX5_weighPart 32 = .ok (.aload_n 0, 1) := by decide +kernel
theorem dX5_weighPart_33 : decode cX5_weighPart 33 = .ok (.getfield 46, 3) := by decide +kernel
theorem dX5_weighPart_36 : decode cX5_weighPart 36 = .ok (.if_icmp .ge 35, 3) := by decide +kernel
theorem dX5_weighPart_39 : decode cX5_weighPart 39 = .ok (.aload_n 0, 1) := by decide +kernel
theorem dX5_weighPart_40 : decode cX5_weighPart 40 = .ok (.getfield 13, 3) := by decide +kernel
theorem dX5_weighPart_43 : decode cX5_weighPart 43 = .ok (.iload_n 3, 1) := by decide +kernel
theorem dX5_weighPart_44 : decode cX5_weighPart 44 = .ok (.aload_n 0, 1) := by decide +kernel
theorem dX5_weighPart_45 : decode cX5_weighPart 45 = .ok (.iload_n 3, 1) := by decide +kernel
theorem dX5_weighPart_46 : decode cX5_weighPart 46 = .ok (.invokevirtual 50, 3) := by decide +kernel
theorem dX5_weighPart_49 : decode cX5_weighPart 49 = .ok (.lastore, 1) := by decide +kernel
theorem dX5_weighPart_50 : decode cX5_weighPart 50 = .ok (.aload_n 0, 1) := by decide +kernel
theorem dX5_weighPart_51 : decode cX5_weighPart 51 = .ok (.dup, 1) := by decide +kernel
theorem dX5_weighPart_52 : decode cX5_weighPart 52 = .ok (.getfield 43, 3) := by decide +kernel
theorem dX5_weighPart_55 : decode cX5_weighPart 55 = .ok (.aload_n 0, 1) := by decide +kernel
theorem dX5_weighPart_56 : decode cX5_weighPart 56 = .ok (.getfield 13, 3) := by decide +kernel
theorem dX5_weighPart_59 : decode cX5_weighPart 59 = .ok (.iload_n 3, 1) := by decide +kernel
theorem dX5_weighPart_60 : decode cX5_weighPart 60 = .ok (.laload, 1) := by decide +kernel
theorem dX5_weighPart_61 : decode cX5_weighPart 61 = .ok (.ladd, 1) := by decide +kernel
theorem dX5_weighPart_62 : decode cX5_weighPart 62 = .ok (.putfield 43, 3) := by decide +kernel
theorem dX5_weighPart_65 : decode cX5_weighPart 65 = .ok (.iinc 3 1, 3) := by decide +kernel
theorem dX5_weighPart_68 : decode cX5_weighPart 68 = .ok (.goto (-37), 3) := by decide +kernel
theorem dX5_weighPart_71 : decode cX5_weighPart 71 = .ok (.return_, 1) := by decide +kernel
theorem dX5_listStates_0 : decode cX5_listStates 0 = .ok (.aload_n 0, 1) := by decide +kernel
theorem dX5_listStates_1 : decode cX5_listStates 1 = .ok (.iconst 0, 1) := by decide +kernel
theorem dX5_listStates_2 : decode cX5_listStates 2 = .ok (.putfield 46, 3) := by decide +kernel
theorem dX5_listStates_5 : decode cX5_listStates 5 = .ok (.iconst 0, 1) := by decide +kernel
theorem dX5_listStates_6 : decode cX5_listStates 6 = .ok (.istore_n 3, 1) := by decide +kernel
theorem dX5_listStates_7 : decode cX5_listStates 7 = .ok (.iload_n 3, 1) := by decide +kernel
theorem dX5_listStates_8 : decode cX5_listStates 8 = .ok (.bipush 64, 2) := by decide +kernel
theorem dX5_listStates_10 : decode cX5_listStates 10 = .ok (.if_icmp .ge 48, 3) := by decide +kernel
theorem dX5_listStates_13 : decode cX5_listStates 13 = .ok (.aload_n 0, 1) := by decide +kernel
theorem dX5_listStates_14 : decode cX5_listStates 14 = .ok (.getfield 46, 3) := by decide +kernel
theorem dX5_listStates_17 : decode cX5_listStates 17 = .ok (.bipush 8, 2) := by decide +kernel
theorem dX5_listStates_19 : decode cX5_listStates 19 = .ok (.if_icmp .ge 39, 3) := by decide +kernel
theorem dX5_listStates_22 : decode cX5_listStates 22 = .ok (.lload_n 1, 1) := by decide +kernel
theorem dX5_listStates_23 : decode cX5_listStates 23 = .ok (.iload_n 3, 1) := by decide +kernel
theorem dX5_listStates_24 : decode cX5_listStates 24 = .ok (.lushr, 1) := by decide +kernel
theorem dX5_listStates_25 : decode cX5_listStates 25 = .ok (.lconst 1, 1) := by decide +kernel
theorem dX5_listStates_26 : decode cX5_listStates 26 = .ok (.land, 1) := by decide +kernel
theorem dX5_listStates_27 : decode cX5_listStates 27 = .ok (.lconst 1, 1) := by decide +kernel
theorem dX5_listStates_28 : decode cX5_listStates 28 = .ok (.lcmp, 1) := by decide +kernel
theorem dX5_listStates_29 : decode cX5_listStates 29 = .ok (.ifCond .ne 23, 3) := by decide +kernel
theorem dX5_listStates_32 : decode cX5_listStates 32 = .ok (.aload_n 0, 1) := by decide +kernel
theorem dX5_listStates_33 : decode cX5_listStates 33 = .ok (.getfield 9, 3) := by decide +kernel
theorem dX5_listStates_36 : decode cX5_listStates 36 = .ok (.aload_n 0, 1) := by decide +kernel
theorem dX5_listStates_37 : decode cX5_listStates 37 = .ok (.getfield 46, 3) := by decide +kernel
theorem dX5_listStates_40 : decode cX5_listStates 40 = .ok (.iload_n 3, 1) := by decide +kernel
theorem dX5_listStates_41 : decode cX5_listStates 41 = .ok (.iastore, 1) := by decide +kernel
theorem dX5_listStates_42 : decode cX5_listStates 42 = .ok (.aload_n 0, 1) := by decide +kernel
theorem dX5_listStates_43 : decode cX5_listStates 43 = .ok (.dup, 1) := by decide +kernel
theorem dX5_listStates_44 : decode cX5_listStates 44 = .ok (.getfield 46, 3) := by decide +kernel
theorem dX5_listStates_47 : decode cX5_listStates 47 = .ok (.iconst 1, 1) := by decide +kernel
theorem dX5_listStates_48 : decode cX5_listStates 48 = .ok (.iadd, 1) := by decide +kernel
theorem dX5_listStates_49 : decode cX5_listStates 49 = .ok (.putfield 46, 3) := by decide +kernel
theorem dX5_listStates_52 : decode cX5_listStates 52 = .ok (.iinc 3 1, 3) := by decide +kernel
theorem dX5_listStates_55 : decode cX5_listStates 55 = .ok (.goto (-48), 3) := by decide +kernel
theorem dX5_listStates_58 : decode cX5_listStates 58 = .ok (.return_, 1) := by decide +kernel
theorem dX5_fillOutflow_0 : decode cX5_fillOutflow 0 = .ok (.iconst 0, 1) := by decide +kernel
theorem dX5_fillOutflow_1 : decode cX5_fillOutflow 1 = .ok (.istore_n 1, 1) := by decide +kernel
theorem dX5_fillOutflow_2 : decode cX5_fillOutflow 2 = .ok (.iload_n 1, 1) := by decide +kernel
theorem dX5_fillOutflow_3 : decode cX5_fillOutflow 3 = .ok (.aload_n 0, 1) := by decide +kernel
theorem dX5_fillOutflow_4 : decode cX5_fillOutflow 4 = .ok (.getfield 46, 3) := by decide +kernel
theorem dX5_fillOutflow_7 : decode cX5_fillOutflow 7 = .ok (.if_icmp .ge 78, 3) := by decide +kernel
theorem dX5_fillOutflow_10 : decode cX5_fillOutflow 10 = .ok (.iconst 0, 1) := by decide +kernel
theorem dX5_fillOutflow_11 : decode cX5_fillOutflow 11 = .ok (.istore_n 2, 1) := by decide +kernel
theorem dX5_fillOutflow_12 : decode cX5_fillOutflow 12 = .ok (.iload_n 2, 1) := by decide +kernel
theorem dX5_fillOutflow_13 : decode cX5_fillOutflow 13 = .ok (.aload_n 0, 1) := by decide +kernel
theorem dX5_fillOutflow_14 : decode cX5_fillOutflow 14 = .ok (.getfield 46, 3) := by decide +kernel
theorem dX5_fillOutflow_17 : decode cX5_fillOutflow 17 = .ok (.if_icmp .ge 62, 3) := by decide +kernel
theorem dX5_fillOutflow_20 : decode cX5_fillOutflow 20 = .ok (.aload_n 0, 1) := by decide +kernel
theorem dX5_fillOutflow_21 : decode cX5_fillOutflow 21 = .ok (.getfield 9, 3) := by decide +kernel
theorem dX5_fillOutflow_24 : decode cX5_fillOutflow 24 = .ok (.iload_n 1, 1) := by decide +kernel
theorem dX5_fillOutflow_25 : decode cX5_fillOutflow 25 = .ok (.iaload, 1) := by decide +kernel
theorem dX5_fillOutflow_26 : decode cX5_fillOutflow 26 = .ok (.istore_n 3, 1) := by decide +kernel
theorem dX5_fillOutflow_27 : decode cX5_fillOutflow 27 = .ok (.aload_n 0, 1) := by decide +kernel
theorem dX5_fillOutflow_28 : decode cX5_fillOutflow 28 = .ok (.getfield 17, 3) := by decide +kernel
theorem dX5_fillOutflow_31 : decode cX5_fillOutflow 31 = .ok (.iload_n 1, 1) := by decide +kernel
theorem dX5_fillOutflow_32 : decode cX5_fillOutflow 32 = .ok (.aload_n 0, 1) := by decide +kernel
theorem dX5_fillOutflow_33 : decode cX5_fillOutflow 33 = .ok (.getfield 46, 3) := by decide +kernel
theorem dX5_fillOutflow_36 : decode cX5_fillOutflow 36 = .ok (.imul, 1) := by decide +kernel
theorem dX5_fillOutflow_37 : decode cX5_fillOutflow 37 = .ok (.iload_n 2, 1) := by decide +kernel
theorem dX5_fillOutflow_38 : decode cX5_fillOutflow 38 = .ok (.iadd, 1) := by decide +kernel
theorem dX5_fillOutflow_39 : decode cX5_fillOutflow 39 = .ok (.iload_n 1, 1) := by decide +kernel
theorem dX5_fillOutflow_40 : decode cX5_fillOutflow 40 = .ok (.iload_n 2, 1) := by decide +kernel
theorem dX5_fillOutflow_41 : decode cX5_fillOutflow 41 = .ok (.if_icmp .ne 15, 3) := by decide +kernel
theorem dX5_fillOutflow_44 : decode cX5_fillOutflow 44 = .ok (.aload_n 0, 1) := by decide +kernel
theorem dX5_fillOutflow_45 : decode cX5_fillOutflow 45 = .ok (.getfield 28, 3) := by decide +kernel
theorem dX5_fillOutflow_48 : decode cX5_fillOutflow 48 = .ok (.iload_n 3, 1) := by decide +kernel
theorem dX5_fillOutflow_49 : decode cX5_fillOutflow 49 = .ok (.invokevirtual 54, 3) := by decide +kernel
theorem dX5_fillOutflow_52 : decode cX5_fillOutflow 52 = .ok (.i2l, 1) := by decide +kernel
theorem dX5_fillOutflow_53 : decode cX5_fillOutflow 53 = .ok (.goto 19, 3) := by decide +kernel
theorem dX5_fillOutflow_56 : decode cX5_fillOutflow 56 = .ok (.aload_n 0, 1) := by decide +kernel
theorem dX5_fillOutflow_57 : decode cX5_fillOutflow 57 = .ok (.getfield 28, 3) := by decide +kernel
theorem dX5_fillOutflow_60 : decode cX5_fillOutflow 60 = .ok (.iload_n 3, 1) := by decide +kernel
theorem dX5_fillOutflow_61 : decode cX5_fillOutflow 61 = .ok (.aload_n 0, 1) := by decide +kernel
theorem dX5_fillOutflow_62 : decode cX5_fillOutflow 62 = .ok (.getfield 9, 3) := by decide +kernel
theorem dX5_fillOutflow_65 : decode cX5_fillOutflow 65 = .ok (.iload_n 2, 1) := by decide +kernel
theorem dX5_fillOutflow_66 : decode cX5_fillOutflow 66 = .ok (.iaload, 1) := by decide +kernel
theorem dX5_fillOutflow_67 : decode cX5_fillOutflow 67 = .ok (.invokevirtual 58, 3) := by decide +kernel
theorem dX5_fillOutflow_70 : decode cX5_fillOutflow 70 = .ok (.ineg, 1) := by decide +kernel
theorem dX5_fillOutflow_71 : decode cX5_fillOutflow 71 = .ok (.i2l, 1) := by decide +kernel
theorem dX5_fillOutflow_72 : decode cX5_fillOutflow 72 = .ok (.lastore, 1) := by decide +kernel
theorem dX5_fillOutflow_73 : decode cX5_fillOutflow 73 = .ok (.iinc 2 1, 3) := by decide +kernel
theorem dX5_fillOutflow_76 : decode cX5_fillOutflow 76 = .ok (.goto (-64), 3) := by decide +kernel
theorem dX5_fillOutflow_79 : decode cX5_fillOutflow 79 = .ok (.iinc 1 1, 3) := by decide +kernel
theorem dX5_fillOutflow_82 : decode cX5_fillOutflow 82 = .ok (.goto (-80), 3) := by decide +kernel
theorem dX5_fillOutflow_85 : decode cX5_fillOutflow 85 = .ok (.return_, 1) := by decide +kernel
theorem dX5_treesTo_0 : decode cX5_treesTo 0 = .ok (.iconst 0, 1) := by decide +kernel
theorem dX5_treesTo_1 : decode cX5_treesTo 1 = .ok (.istore_n 2, 1) := by decide +kernel
theorem dX5_treesTo_2 : decode cX5_treesTo 2 = .ok (.iconst 0, 1) := by decide +kernel
theorem dX5_treesTo_3 : decode cX5_treesTo 3 = .ok (.istore_n 3, 1) := by decide +kernel
theorem dX5_treesTo_4 : decode cX5_treesTo 4 = .ok (.iload_n 3, 1) := by decide +kernel
theorem dX5_treesTo_5 : decode cX5_treesTo 5 = .ok (.aload_n 0, 1) := by decide +kernel
theorem dX5_treesTo_6 : decode cX5_treesTo 6 = .ok (.getfield 46, 3) := by decide +kernel
theorem dX5_treesTo_9 : decode cX5_treesTo 9 = .ok (.if_icmp .ge 70, 3) := by decide +kernel
theorem dX5_treesTo_12 : decode cX5_treesTo 12 = .ok (.iconst 0, 1) := by decide +kernel
theorem dX5_treesTo_13 : decode cX5_treesTo 13 = .ok (.istore 4, 2) := by decide +kernel
theorem dX5_treesTo_15 : decode cX5_treesTo 15 = .ok (.iload 4, 2) := by decide +kernel
theorem dX5_treesTo_17 : decode cX5_treesTo 17 = .ok (.aload_n 0, 1) := by decide +kernel
theorem dX5_treesTo_18 : decode cX5_treesTo 18 = .ok (.getfield 46, 3) := by decide +kernel
theorem dX5_treesTo_21 : decode cX5_treesTo 21 = .ok (.if_icmp .ge 52, 3) := by decide +kernel
theorem dX5_treesTo_24 : decode cX5_treesTo 24 = .ok (.iload_n 3, 1) := by decide +kernel
theorem dX5_treesTo_25 : decode cX5_treesTo 25 = .ok (.iload_n 1, 1) := by decide +kernel
theorem dX5_treesTo_26 : decode cX5_treesTo 26 = .ok (.if_icmp .eq 41, 3) := by decide +kernel
theorem dX5_treesTo_29 : decode cX5_treesTo 29 = .ok (.iload 4, 2) := by decide +kernel
theorem dX5_treesTo_31 : decode cX5_treesTo 31 = .ok (.iload_n 1, 1) := by decide +kernel
theorem dX5_treesTo_32 : decode cX5_treesTo 32 = .ok (.if_icmp .eq 35, 3) := by decide +kernel
theorem dX5_treesTo_35 : decode cX5_treesTo 35 = .ok (.iload_n 2, 1) := by decide +kernel
theorem dX5_treesTo_36 : decode cX5_treesTo 36 = .ok (.aload_n 0, 1) := by decide +kernel
theorem dX5_treesTo_37 : decode cX5_treesTo 37 = .ok (.getfield 20, 3) := by decide +kernel
theorem dX5_treesTo_40 : decode cX5_treesTo 40 = .ok (.arraylength, 1) := by decide +kernel
theorem dX5_treesTo_41 : decode cX5_treesTo 41 = .ok (.if_icmp .ge 26, 3) := by decide +kernel
theorem dX5_treesTo_44 : decode cX5_treesTo 44 = .ok (.aload_n 0, 1) := by decide +kernel
theorem dX5_treesTo_45 : decode cX5_treesTo 45 = .ok (.getfield 20, 3) := by decide +kernel
theorem dX5_treesTo_48 : decode cX5_treesTo 48 = .ok (.iload_n 2, 1) := by decide +kernel
theorem dX5_treesTo_49 : decode cX5_treesTo 49 = .ok (.aload_n 0, 1) := by decide +kernel
theorem dX5_treesTo_50 : decode cX5_treesTo 50 = .ok (.getfield 17, 3) := by decide +kernel
theorem dX5_treesTo_53 : decode cX5_treesTo 53 = .ok (.iload_n 3, 1) := by decide +kernel
theorem dX5_treesTo_54 : decode cX5_treesTo 54 = .ok (.aload_n 0, 1) := by decide +kernel
theorem dX5_treesTo_55 : decode cX5_treesTo 55 = .ok (.getfield 46, 3) := by decide +kernel
theorem dX5_treesTo_58 : decode cX5_treesTo 58 = .ok (.imul, 1) := by decide +kernel
theorem dX5_treesTo_59 : decode cX5_treesTo 59 = .ok (.iload 4, 2) := by decide +kernel
theorem dX5_treesTo_61 : decode cX5_treesTo 61 = .ok (.iadd, 1) := by decide +kernel
theorem dX5_treesTo_62 : decode cX5_treesTo 62 = .ok (.laload, 1) := by decide +kernel
theorem dX5_treesTo_63 : decode cX5_treesTo 63 = .ok (.lastore, 1) := by decide +kernel
theorem dX5_treesTo_64 : decode cX5_treesTo 64 = .ok (.iinc 2 1, 3) := by decide +kernel
theorem dX5_treesTo_67 : decode cX5_treesTo 67 = .ok (.iinc 4 1, 3) := by decide +kernel
theorem dX5_treesTo_70 : decode cX5_treesTo 70 = .ok (.goto (-55), 3) := by decide +kernel
theorem dX5_treesTo_73 : decode cX5_treesTo 73 = .ok (.iinc 3 1, 3) := by decide +kernel
theorem dX5_treesTo_76 : decode cX5_treesTo 76 = .ok (.goto (-72), 3) := by decide +kernel
theorem dX5_treesTo_79 : decode cX5_treesTo 79 = .ok (.aload_n 0, 1) := by decide +kernel
theorem dX5_treesTo_80 : decode cX5_treesTo 80 = .ok (.getfield 20, 3) := by decide +kernel
theorem dX5_treesTo_83 : decode cX5_treesTo 83 = .ok (.aload_n 0, 1) := by decide +kernel
theorem dX5_treesTo_84 : decode cX5_treesTo 84 = .ok (.getfield 46, 3) := by decide +kernel
theorem dX5_treesTo_87 : decode cX5_treesTo 87 = .ok (.iconst 1, 1) := by decide +kernel
theorem dX5_treesTo_88 : decode cX5_treesTo 88 = .ok (.isub, 1) := by decide +kernel
theorem dX5_treesTo_89 : decode cX5_treesTo 89 = .ok (.invokestatic 62, 3) := by decide +kernel
theorem dX5_treesTo_92 : decode cX5_treesTo 92 = .ok (.lreturn, 1) := by decide +kernel
theorem dX5_total_0 : decode cX5_total 0 = .ok (.aload_n 0, 1) := by decide +kernel
theorem dX5_total_1 : decode cX5_total 1 = .ok (.getfield 43, 3) := by decide +kernel
theorem dX5_total_4 : decode cX5_total 4 = .ok (.lreturn, 1) := by decide +kernel
theorem dX5_weightOf_0 : decode cX5_weightOf 0 = .ok (.iconst 0, 1) := by decide +kernel
theorem dX5_weightOf_1 : decode cX5_weightOf 1 = .ok (.istore_n 2, 1) := by decide +kernel
theorem dX5_weightOf_2 : decode cX5_weightOf 2 = .ok (.iload_n 2, 1) := by decide +kernel
theorem dX5_weightOf_3 : decode cX5_weightOf 3 = .ok (.aload_n 0, 1) := by decide +kernel
theorem dX5_weightOf_4 : decode cX5_weightOf 4 = .ok (.getfield 46, 3) := by decide +kernel
theorem dX5_weightOf_7 : decode cX5_weightOf 7 = .ok (.if_icmp .ge 26, 3) := by decide +kernel
theorem dX5_weightOf_10 : decode cX5_weightOf 10 = .ok (.aload_n 0, 1) := by decide +kernel
theorem dX5_weightOf_11 : decode cX5_weightOf 11 = .ok (.getfield 9, 3) := by decide +kernel
theorem dX5_weightOf_14 : decode cX5_weightOf 14 = .ok (.iload_n 2, 1) := by decide +kernel
theorem dX5_weightOf_15 : decode cX5_weightOf 15 = .ok (.iaload, 1) := by decide +kernel
theorem dX5_weightOf_16 : decode cX5_weightOf 16 = .ok (.iload_n 1, 1) := by decide +kernel
theorem dX5_weightOf_17 : decode cX5_weightOf 17 = .ok (.if_icmp .ne 10, 3) := by decide +kernel
theorem dX5_weightOf_20 : decode cX5_weightOf 20 = .ok (.aload_n 0, 1) := by decide +kernel
theorem dX5_weightOf_21 : decode cX5_weightOf 21 = .ok (.getfield 13, 3) := by decide +kernel
theorem dX5_weightOf_24 : decode cX5_weightOf 24 = .ok (.iload_n 2, 1) := by decide +kernel
theorem dX5_weightOf_25 : decode cX5_weightOf 25 = .ok (.laload, 1) := by decide +kernel
theorem dX5_weightOf_26 : decode cX5_weightOf 26 = .ok (.lreturn, 1) := by decide +kernel
theorem dX5_weightOf_27 : decode cX5_weightOf 27 = .ok (.iinc 2 1, 3) := by decide +kernel
theorem dX5_weightOf_30 : decode cX5_weightOf 30 = .ok (.goto (-28), 3) := by decide +kernel
theorem dX5_weightOf_33 : decode cX5_weightOf 33 = .ok (.lconst 0, 1) := by decide +kernel
theorem dX5_weightOf_34 : decode cX5_weightOf 34 = .ok (.lreturn, 1) := by decide +kernel
theorem dX5_passingAtRest_0 : decode cX5_passingAtRest 0 = .ok (.lconst 0, 1) := by decide +kernel
theorem dX5_passingAtRest_1 : decode cX5_passingAtRest 1 = .ok (.lstore_n 1, 1) := by decide +kernel
theorem dX5_passingAtRest_2 : decode cX5_passingAtRest 2 = .ok (.iconst 0, 1) := by decide +kernel
theorem dX5_passingAtRest_3 : decode cX5_passingAtRest 3 = .ok (.istore_n 3, 1) := by decide +kernel
theorem dX5_passingAtRest_4 : decode cX5_passingAtRest 4 = .ok (.iload_n 3, 1) := by decide +kernel
theorem dX5_passingAtRest_5 : decode cX5_passingAtRest 5 = .ok (.aload_n 0, 1) := by decide +kernel
theorem dX5_passingAtRest_6 : decode cX5_passingAtRest 6 = .ok (.getfield 46, 3) := by decide +kernel
theorem dX5_passingAtRest_9 : decode cX5_passingAtRest 9 = .ok (.if_icmp .ge 33, 3) := by decide +kernel
theorem dX5_passingAtRest_12 : decode cX5_passingAtRest 12 = .ok (.lload_n 1, 1) := by decide +kernel
theorem dX5_passingAtRest_13 : decode cX5_passingAtRest 13 = .ok (.aload_n 0, 1) := by decide +kernel
theorem dX5_passingAtRest_14 : decode cX5_passingAtRest 14 = .ok (.getfield 13, 3) := by decide +kernel
theorem dX5_passingAtRest_17 : decode cX5_passingAtRest 17 = .ok (.iload_n 3, 1) := by decide +kernel
theorem dX5_passingAtRest_18 : decode cX5_passingAtRest 18 = .ok (.laload, 1) := by decide +kernel
theorem dX5_passingAtRest_19 : decode cX5_passingAtRest 19 = .ok (.aload_n 0, 1) := by decide +kernel
theorem dX5_passingAtRest_20 : decode cX5_passingAtRest 20 = .ok (.getfield 28, 3) := by decide +kernel
theorem dX5_passingAtRest_23 : decode cX5_passingAtRest 23 = .ok (.aload_n 0, 1) := by decide +kernel
theorem dX5_passingAtRest_24 : decode cX5_passingAtRest 24 = .ok (.getfield 9, 3) := by decide +kernel
theorem dX5_passingAtRest_27 : decode cX5_passingAtRest 27 = .ok (.iload_n 3, 1) := by decide +kernel
theorem dX5_passingAtRest_28 : decode cX5_passingAtRest 28 = .ok (.iaload, 1) := by decide +kernel
theorem dX5_passingAtRest_29 : decode cX5_passingAtRest 29 = .ok (.invokevirtual 68, 3) := by decide +kernel
theorem dX5_passingAtRest_32 : decode cX5_passingAtRest 32 = .ok (.i2l, 1) := by decide +kernel
theorem dX5_passingAtRest_33 : decode cX5_passingAtRest 33 = .ok (.lmul, 1) := by decide +kernel
theorem dX5_passingAtRest_34 : decode cX5_passingAtRest 34 = .ok (.ladd, 1) := by decide +kernel
theorem dX5_passingAtRest_35 : decode cX5_passingAtRest 35 = .ok (.lstore_n 1, 1) := by decide +kernel
theorem dX5_passingAtRest_36 : decode cX5_passingAtRest 36 = .ok (.iinc 3 1, 3) := by decide +kernel
theorem dX5_passingAtRest_39 : decode cX5_passingAtRest 39 = .ok (.goto (-35), 3) := by decide +kernel
theorem dX5_passingAtRest_42 : decode cX5_passingAtRest 42 = .ok (.lload_n 1, 1) := by decide +kernel
theorem dX5_passingAtRest_43 : decode cX5_passingAtRest 43 = .ok (.lreturn, 1) := by decide +kernel
theorem dX5_agreesBothWays_0 : decode cX5_agreesBothWays 0 = .ok (.iconst 0, 1) := by decide +kernel
theorem dX5_agreesBothWays_1 : decode cX5_agreesBothWays 1 = .ok (.istore_n 1, 1) := by decide +kernel
theorem dX5_agreesBothWays_2 : decode cX5_agreesBothWays 2 = .ok (.iload_n 1, 1) := by decide +kernel
theorem dX5_agreesBothWays_3 : decode cX5_agreesBothWays 3 = .ok (.aload_n 0, 1) := by decide +kernel
theorem dX5_agreesBothWays_4 : decode cX5_agreesBothWays 4 = .ok (.getfield 46, 3) := by decide +kernel
theorem dX5_agreesBothWays_7 : decode cX5_agreesBothWays 7 = .ok (.if_icmp .ge 68, 3) := by decide +kernel
theorem dX5_agreesBothWays_10 : decode cX5_agreesBothWays 10 = .ok (.iconst 0, 1) := by decide +kernel
theorem dX5_agreesBothWays_11 : decode cX5_agreesBothWays 11 = .ok (.istore_n 2, 1) := by decide +kernel
theorem dX5_agreesBothWays_12 : decode cX5_agreesBothWays 12 = .ok (.iload_n 2, 1) := by decide +kernel
theorem dX5_agreesBothWays_13 : decode cX5_agreesBothWays 13 = .ok (.iload_n 1, 1) := by decide +kernel
theorem dX5_agreesBothWays_14 : decode cX5_agreesBothWays 14 = .ok (.if_icmp .ge 55, 3) := by decide +kernel
theorem dX5_agreesBothWays_17 : decode cX5_agreesBothWays 17 = .ok (.aload_n 0, 1) := by decide +kernel
theorem dX5_agreesBothWays_18 : decode cX5_agreesBothWays 18 = .ok (.getfield 13, 3) := by decide +kernel
theorem dX5_agreesBothWays_21 : decode cX5_agreesBothWays 21 = .ok (.iload_n 1, 1) := by decide +kernel
theorem dX5_agreesBothWays_22 : decode cX5_agreesBothWays 22 = .ok (.laload, 1) := by decide +kernel
theorem dX5_agreesBothWays_23 : decode cX5_agreesBothWays 23 = .ok (.aload_n 0, 1) := by decide +kernel
theorem dX5_agreesBothWays_24 : decode cX5_agreesBothWays 24 = .ok (.getfield 17, 3) := by decide +kernel
theorem dX5_agreesBothWays_27 : decode cX5_agreesBothWays 27 = .ok (.iload_n 1, 1) := by decide +kernel
theorem dX5_agreesBothWays_28 : decode cX5_agreesBothWays 28 = .ok (.aload_n 0, 1) := by decide +kernel
theorem dX5_agreesBothWays_29 : decode cX5_agreesBothWays 29 = .ok (.getfield 46, 3) := by decide +kernel
theorem dX5_agreesBothWays_32 : decode cX5_agreesBothWays 32 = .ok (.imul, 1) := by decide +kernel
theorem dX5_agreesBothWays_33 : decode cX5_agreesBothWays 33 = .ok (.iload_n 2, 1) := by decide +kernel
theorem dX5_agreesBothWays_34 : decode cX5_agreesBothWays 34 = .ok (.iadd, 1) := by decide +kernel
theorem dX5_agreesBothWays_35 : decode cX5_agreesBothWays 35 = .ok (.laload, 1) := by decide +kernel
theorem dX5_agreesBothWays_36 : decode cX5_agreesBothWays 36 = .ok (.lmul, 1) := by decide +kernel
theorem dX5_agreesBothWays_37 : decode cX5_agreesBothWays 37 = .ok (.aload_n 0, 1) := by decide +kernel
theorem dX5_agreesBothWays_38 : decode cX5_agreesBothWays 38 = .ok (.getfield 13, 3) := by decide +kernel
theorem dX5_agreesBothWays_41 : decode cX5_agreesBothWays 41 = .ok (.iload_n 2, 1) := by decide +kernel
theorem dX5_agreesBothWays_42 : decode cX5_agreesBothWays 42 = .ok (.laload, 1) := by decide +kernel
theorem dX5_agreesBothWays_43 : decode cX5_agreesBothWays 43 = .ok (.aload_n 0, 1) := by decide +kernel
theorem dX5_agreesBothWays_44 : decode cX5_agreesBothWays 44 = .ok (.getfield 17, 3) := by decide +kernel
theorem dX5_agreesBothWays_47 : decode cX5_agreesBothWays 47 = .ok (.iload_n 2, 1) := by decide +kernel
theorem dX5_agreesBothWays_48 : decode cX5_agreesBothWays 48 = .ok (.aload_n 0, 1) := by decide +kernel
theorem dX5_agreesBothWays_49 : decode cX5_agreesBothWays 49 = .ok (.getfield 46, 3) := by decide +kernel
theorem dX5_agreesBothWays_52 : decode cX5_agreesBothWays 52 = .ok (.imul, 1) := by decide +kernel
theorem dX5_agreesBothWays_53 : decode cX5_agreesBothWays 53 = .ok (.iload_n 1, 1) := by decide +kernel
theorem dX5_agreesBothWays_54 : decode cX5_agreesBothWays 54 = .ok (.iadd, 1) := by decide +kernel
theorem dX5_agreesBothWays_55 : decode cX5_agreesBothWays 55 = .ok (.laload, 1) := by decide +kernel
theorem dX5_agreesBothWays_56 : decode cX5_agreesBothWays 56 = .ok (.lmul, 1) := by decide +kernel
theorem dX5_agreesBothWays_57 : decode cX5_agreesBothWays 57 = .ok (.lcmp, 1) := by decide +kernel
theorem dX5_agreesBothWays_58 : decode cX5_agreesBothWays 58 = .ok (.ifCond .eq 5, 3) := by decide +kernel
theorem dX5_agreesBothWays_61 : decode cX5_agreesBothWays 61 = .ok (.iconst 0, 1) := by decide +kernel
theorem dX5_agreesBothWays_62 : decode cX5_agreesBothWays 62 = .ok (.ireturn, 1) := by decide +kernel
theorem dX5_agreesBothWays_63 : decode cX5_agreesBothWays 63 = .ok (.iinc 2 1, 3) := by decide +kernel
theorem dX5_agreesBothWays_66 : decode cX5_agreesBothWays 66 = .ok (.goto (-54), 3) := by decide +kernel
theorem dX5_agreesBothWays_69 : decode cX5_agreesBothWays 69 = .ok (.iinc 1 1, 3) := by decide +kernel
theorem dX5_agreesBothWays_72 : decode cX5_agreesBothWays 72 = .ok (.goto (-70), 3) := by decide +kernel
theorem dX5_agreesBothWays_75 : decode cX5_agreesBothWays 75 = .ok (.iconst 1, 1) := by decide +kernel
theorem dX5_agreesBothWays_76 : decode cX5_agreesBothWays 76 = .ok (.ireturn, 1) := by decide +kernel
theorem dX5_emptyShares_0 : decode cX5_emptyShares 0 = .ok (.iconst 0, 1) := by decide +kernel
theorem dX5_emptyShares_1 : decode cX5_emptyShares 1 = .ok (.istore_n 1, 1) := by decide +kernel
theorem dX5_emptyShares_2 : decode cX5_emptyShares 2 = .ok (.iload_n 1, 1) := by decide +kernel
theorem dX5_emptyShares_3 : decode cX5_emptyShares 3 = .ok (.aload_n 0, 1) := by decide +kernel
theorem dX5_emptyShares_4 : decode cX5_emptyShares 4 = .ok (.getfield 25, 3) := by decide +kernel
theorem dX5_emptyShares_7 : decode cX5_emptyShares 7 = .ok (.arraylength, 1) := by decide +kernel
theorem dX5_emptyShares_8 : decode cX5_emptyShares 8 = .ok (.if_icmp .ge 16, 3) := by decide +kernel
theorem dX5_emptyShares_11 : decode cX5_emptyShares 11 = .ok (.aload_n 0, 1) := by decide +kernel
theorem dX5_emptyShares_12 : decode cX5_emptyShares 12 = .ok (.getfield 25, 3) := by decide +kernel
theorem dX5_emptyShares_15 : decode cX5_emptyShares 15 = .ok (.iload_n 1, 1) := by decide +kernel
theorem dX5_emptyShares_16 : decode cX5_emptyShares 16 = .ok (.lconst 0, 1) := by decide +kernel
theorem dX5_emptyShares_17 : decode cX5_emptyShares 17 = .ok (.lastore, 1) := by decide +kernel
theorem dX5_emptyShares_18 : decode cX5_emptyShares 18 = .ok (.iinc 1 1, 3) := by decide +kernel
theorem dX5_emptyShares_21 : decode cX5_emptyShares 21 = .ok (.goto (-19), 3) := by decide +kernel
theorem dX5_emptyShares_24 : decode cX5_emptyShares 24 = .ok (.aload_n 0, 1) := by decide +kernel
theorem dX5_emptyShares_25 : decode cX5_emptyShares 25 = .ok (.lconst 0, 1) := by decide +kernel
theorem dX5_emptyShares_26 : decode cX5_emptyShares 26 = .ok (.putfield 71, 3) := by decide +kernel
theorem dX5_emptyShares_29 : decode cX5_emptyShares 29 = .ok (.return_, 1) := by decide +kernel
theorem dX5_pourShare_0 : decode cX5_pourShare 0 = .ok (.aload_n 0, 1) := by decide +kernel
theorem dX5_pourShare_1 : decode cX5_pourShare 1 = .ok (.dup, 1) := by decide +kernel
theorem dX5_pourShare_2 : decode cX5_pourShare 2 = .ok (.getfield 71, 3) := by decide +kernel
theorem dX5_pourShare_5 : decode cX5_pourShare 5 = .ok (.iload_n 2, 1) := by decide +kernel
theorem dX5_pourShare_6 : decode cX5_pourShare 6 = .ok (.i2l, 1) := by decide +kernel
theorem dX5_pourShare_7 : decode cX5_pourShare 7 = .ok (.ladd, 1) := by decide +kernel
theorem dX5_pourShare_8 : decode cX5_pourShare 8 = .ok (.putfield 71, 3) := by decide +kernel
theorem dX5_pourShare_11 : decode cX5_pourShare 11 = .ok (.iconst 0, 1) := by decide +kernel
theorem dX5_pourShare_12 : decode cX5_pourShare 12 = .ok (.istore_n 3, 1) := by decide +kernel
theorem dX5_pourShare_13 : decode cX5_pourShare 13 = .ok (.iload_n 3, 1) := by decide +kernel
theorem dX5_pourShare_14 : decode cX5_pourShare 14 = .ok (.aload_n 0, 1) := by decide +kernel
theorem dX5_pourShare_15 : decode cX5_pourShare 15 = .ok (.getfield 28, 3) := by decide +kernel
theorem dX5_pourShare_18 : decode cX5_pourShare 18 = .ok (.invokevirtual 74, 3) := by decide +kernel
theorem dX5_pourShare_21 : decode cX5_pourShare 21 = .ok (.if_icmp .ge 87, 3) := by decide +kernel
theorem dX5_pourShare_24 : decode cX5_pourShare 24 = .ok (.iload_n 2, 1) := by decide +kernel
theorem dX5_pourShare_25 : decode cX5_pourShare 25 = .ok (.i2l, 1) := by decide +kernel
theorem dX5_pourShare_26 : decode cX5_pourShare 26 = .ok (.aload_n 0, 1) := by decide +kernel
theorem dX5_pourShare_27 : decode cX5_pourShare 27 = .ok (.getfield 28, 3) := by decide +kernel
theorem dX5_pourShare_30 : decode cX5_pourShare 30 = .ok (.iload_n 1, 1) := by decide +kernel
theorem dX5_pourShare_31 : decode cX5_pourShare 31 = .ok (.iload_n 3, 1) := by decide +kernel
theorem dX5_pourShare_32 : decode cX5_pourShare 32 = .ok (.invokevirtual 78, 3) := by decide +kernel
theorem dX5_pourShare_35 : decode cX5_pourShare 35 = .ok (.i2l, 1) := by decide +kernel
theorem dX5_pourShare_36 : decode cX5_pourShare 36 = .ok (.lmul, 1) := by decide +kernel
theorem dX5_pourShare_37 : decode cX5_pourShare 37 = .ok (.lstore 4, 2) := by decide +kernel
theorem dX5_pourShare_39 : decode cX5_pourShare 39 = .ok (.iload_n 1, 1) := by decide +kernel
theorem dX5_pourShare_40 : decode cX5_pourShare 40 = .ok (.aload_n 0, 1) := by decide +kernel
theorem dX5_pourShare_41 : decode cX5_pourShare 41 = .ok (.getfield 28, 3) := by decide +kernel
theorem dX5_pourShare_44 : decode cX5_pourShare 44 = .ok (.iload_n 3, 1) := by decide +kernel
theorem dX5_pourShare_45 : decode cX5_pourShare 45 = .ok (.invokevirtual 81, 3) := by decide +kernel
theorem dX5_pourShare_48 : decode cX5_pourShare 48 = .ok (.ixor, 1) := by decide +kernel
theorem dX5_pourShare_49 : decode cX5_pourShare 49 = .ok (.istore 6, 2) := by decide +kernel
theorem dX5_pourShare_51 : decode cX5_pourShare 51 = .ok (.iload_n 1, 1) := by decide +kernel
theorem dX5_pourShare_52 : decode cX5_pourShare 52 = .ok (.ifCond .lt 50, 3) := by decide +kernel
theorem dX5_pourShare_55 : decode cX5_pourShare 55 = .ok (.iload_n 1, 1) := by decide +kernel
theorem dX5_pourShare_56 : decode cX5_pourShare 56 = .ok (.aload_n 0, 1) := by decide +kernel
theorem dX5_pourShare_57 : decode cX5_pourShare 57 = .ok (.getfield 25, 3) := by decide +kernel
theorem dX5_pourShare_60 : decode cX5_pourShare 60 = .ok (.arraylength, 1) := by decide +kernel
theorem dX5_pourShare_61 : decode cX5_pourShare 61 = .ok (.if_icmp .ge 41, 3) := by decide +kernel
theorem dX5_pourShare_64 : decode cX5_pourShare 64 = .ok (.iload 6, 2) := by decide +kernel
theorem dX5_pourShare_66 : decode cX5_pourShare 66 = .ok (.ifCond .lt 36, 3) := by decide +kernel
theorem dX5_pourShare_69 : decode cX5_pourShare 69 = .ok (.iload 6, 2) := by decide +kernel
theorem dX5_pourShare_71 : decode cX5_pourShare 71 = .ok (.aload_n 0, 1) := by decide +kernel
theorem dX5_pourShare_72 : decode cX5_pourShare 72 = .ok (.getfield 25, 3) := by decide +kernel
theorem dX5_pourShare_75 : decode cX5_pourShare 75 = .ok (.arraylength, 1) := by decide +kernel
theorem dX5_pourShare_76 : decode cX5_pourShare 76 = .ok (.if_icmp .ge 26, 3) := by decide +kernel
theorem dX5_pourShare_79 : decode cX5_pourShare 79 = .ok (.aload_n 0, 1) := by decide +kernel
theorem dX5_pourShare_80 : decode cX5_pourShare 80 = .ok (.getfield 25, 3) := by decide +kernel
theorem dX5_pourShare_83 : decode cX5_pourShare 83 = .ok (.iload_n 1, 1) := by decide +kernel
theorem dX5_pourShare_84 : decode cX5_pourShare 84 = .ok (.dup2, 1) := by decide +kernel
theorem dX5_pourShare_85 : decode cX5_pourShare 85 = .ok (.laload, 1) := by decide +kernel
theorem dX5_pourShare_86 : decode cX5_pourShare 86 = .ok (.lload 4, 2) := by decide +kernel
theorem dX5_pourShare_88 : decode cX5_pourShare 88 = .ok (.lsub, 1) := by decide +kernel
theorem dX5_pourShare_89 : decode cX5_pourShare 89 = .ok (.lastore, 1) := by decide +kernel
theorem dX5_pourShare_90 : decode cX5_pourShare 90 = .ok (.aload_n 0, 1) := by decide +kernel
theorem dX5_pourShare_91 : decode cX5_pourShare 91 = .ok (.getfield 25, 3) := by decide +kernel
theorem dX5_pourShare_94 : decode cX5_pourShare 94 = .ok (.iload 6, 2) := by decide +kernel
theorem dX5_pourShare_96 : decode cX5_pourShare 96 = .ok (.dup2, 1) := by decide +kernel
theorem dX5_pourShare_97 : decode cX5_pourShare 97 = .ok (.laload, 1) := by decide +kernel
theorem dX5_pourShare_98 : decode cX5_pourShare 98 = .ok (.lload 4, 2) := by decide +kernel
theorem dX5_pourShare_100 : decode cX5_pourShare 100 = .ok (.ladd, 1) := by decide +kernel
theorem dX5_pourShare_101 : decode cX5_pourShare 101 = .ok (.lastore, 1) := by decide +kernel
theorem dX5_pourShare_102 : decode cX5_pourShare 102 = .ok (.iinc 3 1, 3) := by decide +kernel
theorem dX5_pourShare_105 : decode cX5_pourShare 105 = .ok (.goto (-92), 3) := by decide +kernel
theorem dX5_pourShare_108 : decode cX5_pourShare 108 = .ok (.return_, 1) := by decide +kernel
theorem dX5_sharesStand_0 : decode cX5_sharesStand 0 = .ok (.iconst 0, 1) := by decide +kernel
theorem dX5_sharesStand_1 : decode cX5_sharesStand 1 = .ok (.istore_n 1, 1) := by decide +kernel
theorem dX5_sharesStand_2 : decode cX5_sharesStand 2 = .ok (.iload_n 1, 1) := by decide +kernel
theorem dX5_sharesStand_3 : decode cX5_sharesStand 3 = .ok (.aload_n 0, 1) := by decide +kernel
theorem dX5_sharesStand_4 : decode cX5_sharesStand 4 = .ok (.getfield 25, 3) := by decide +kernel
theorem dX5_sharesStand_7 : decode cX5_sharesStand 7 = .ok (.arraylength, 1) := by decide +kernel
theorem dX5_sharesStand_8 : decode cX5_sharesStand 8 = .ok (.if_icmp .ge 22, 3) := by decide +kernel
theorem dX5_sharesStand_11 : decode cX5_sharesStand 11 = .ok (.aload_n 0, 1) := by decide +kernel
theorem dX5_sharesStand_12 : decode cX5_sharesStand 12 = .ok (.getfield 25, 3) := by decide +kernel
theorem dX5_sharesStand_15 : decode cX5_sharesStand 15 = .ok (.iload_n 1, 1) := by decide +kernel
theorem dX5_sharesStand_16 : decode cX5_sharesStand 16 = .ok (.laload, 1) := by decide +kernel
theorem dX5_sharesStand_17 : decode cX5_sharesStand 17 = .ok (.lconst 0, 1) := by decide +kernel
theorem dX5_sharesStand_18 : decode cX5_sharesStand 18 = .ok (.lcmp, 1) := by decide +kernel
theorem dX5_sharesStand_19 : decode cX5_sharesStand 19 = .ok (.ifCond .eq 5, 3) := by decide +kernel
theorem dX5_sharesStand_22 : decode cX5_sharesStand 22 = .ok (.iconst 0, 1) := by decide +kernel
theorem dX5_sharesStand_23 : decode cX5_sharesStand 23 = .ok (.ireturn, 1) := by decide +kernel
theorem dX5_sharesStand_24 : decode cX5_sharesStand 24 = .ok (.iinc 1 1, 3) := by decide +kernel
theorem dX5_sharesStand_27 : decode cX5_sharesStand 27 = .ok (.goto (-25), 3) := by decide +kernel
theorem dX5_sharesStand_30 : decode cX5_sharesStand 30 = .ok (.aload_n 0, 1) := by decide +kernel
theorem dX5_sharesStand_31 : decode cX5_sharesStand 31 = .ok (.getfield 71, 3) := by decide +kernel
theorem dX5_sharesStand_34 : decode cX5_sharesStand 34 = .ok (.lconst 0, 1) := by decide +kernel
theorem dX5_sharesStand_35 : decode cX5_sharesStand 35 = .ok (.lcmp, 1) := by decide +kernel
theorem dX5_sharesStand_36 : decode cX5_sharesStand 36 = .ok (.ifCond .le 7, 3) := by decide +kernel
theorem dX5_sharesStand_39 : decode cX5_sharesStand 39 = .ok (.iconst 1, 1) := by decide +kernel
theorem dX5_sharesStand_40 : decode cX5_sharesStand 40 = .ok (.goto 4, 3) := by decide +kernel
theorem dX5_sharesStand_43 : decode cX5_sharesStand 43 = .ok (.iconst 0, 1) := by decide +kernel
theorem dX5_sharesStand_44 : decode cX5_sharesStand 44 = .ok (.ireturn, 1) := by decide +kernel
theorem dX6_ready_0 : decode cX6_ready 0 = .ok (.iload_n 0, 1) := by decide +kernel
theorem dX6_ready_1 : decode cX6_ready 1 = .ok (.iconst 1, 1) := by decide +kernel
theorem dX6_ready_2 : decode cX6_ready 2 = .ok (.ishr, 1) := by decide +kernel
theorem dX6_ready_3 : decode cX6_ready 3 = .ok (.iload_n 0, 1) := by decide +kernel
theorem dX6_ready_4 : decode cX6_ready 4 = .ok (.iconst 1, 1) := by decide +kernel
theorem dX6_ready_5 : decode cX6_ready 5 = .ok (.iand, 1) := by decide +kernel
theorem dX6_ready_6 : decode cX6_ready 6 = .ok (.iload_n 1, 1) := by decide +kernel
theorem dX6_ready_7 : decode cX6_ready 7 = .ok (.iconst 1, 1) := by decide +kernel
theorem dX6_ready_8 : decode cX6_ready 8 = .ok (.isub, 1) := by decide +kernel
theorem dX6_ready_9 : decode cX6_ready 9 = .ok (.ishl, 1) := by decide +kernel
theorem dX6_ready_10 : decode cX6_ready 10 = .ok (.ior, 1) := by decide +kernel
theorem dX6_ready_11 : decode cX6_ready 11 = .ok (.istore_n 2, 1) := by decide +kernel
theorem dX6_ready_12 : decode cX6_ready 12 = .ok (.iload_n 0, 1) := by decide +kernel
theorem dX6_ready_13 : decode cX6_ready 13 = .ok (.iload_n 2, 1) := by decide +kernel
theorem dX6_ready_14 : decode cX6_ready 14 = .ok (.iconst (-1), 1) := by decide +kernel
theorem dX6_ready_15 : decode cX6_ready 15 = .ok (.ixor, 1) := by decide +kernel
theorem dX6_ready_16 : decode cX6_ready 16 = .ok (.iand, 1) := by decide +kernel
theorem dX6_ready_17 : decode cX6_ready 17 = .ok (.ireturn, 1) := by decide +kernel
theorem dX6_step_0 : decode cX6_step 0 = .ok (.iload_n 0, 1) := by decide +kernel
theorem dX6_step_1 : decode cX6_step 1 = .ok (.iload_n 1, 1) := by decide +kernel
theorem dX6_step_2 : decode cX6_step 2 = .ok (.invokestatic 9, 3) := by decide +kernel
theorem dX6_step_5 : decode cX6_step 5 = .ok (.istore_n 2, 1) := by decide +kernel
theorem dX6_step_6 : decode cX6_step 6 = .ok (.iload_n 2, 1) := by decide +kernel
theorem dX6_step_7 : decode cX6_step 7 = .ok (.iconst 1, 1) := by decide +kernel
theorem dX6_step_8 : decode cX6_step 8 = .ok (.ishl, 1) := by decide +kernel
theorem dX6_step_9 : decode cX6_step 9 = .ok (.iload_n 2, 1) := by decide +kernel
theorem dX6_step_10 : decode cX6_step 10 = .ok (.iload_n 1, 1) := by decide +kernel
theorem dX6_step_11 : decode cX6_step 11 = .ok (.iconst 1, 1) := by decide +kernel
theorem dX6_step_12 : decode cX6_step 12 = .ok (.isub, 1) := by decide +kernel
theorem dX6_step_13 : decode cX6_step 13 = .ok (.ishr, 1) := by decide +kernel
theorem dX6_step_14 : decode cX6_step 14 = .ok (.ior, 1) := by decide +kernel
theorem dX6_step_15 : decode cX6_step 15 = .ok (.iconst 1, 1) := by decide +kernel
theorem dX6_step_16 : decode cX6_step 16 = .ok (.iload_n 1, 1) := by decide +kernel
theorem dX6_step_17 : decode cX6_step 17 = .ok (.ishl, 1) := by decide +kernel
theorem dX6_step_18 : decode cX6_step 18 = .ok (.iconst 1, 1) := by decide +kernel
theorem dX6_step_19 : decode cX6_step 19 = .ok (.isub, 1) := by decide +kernel
theorem dX6_step_20 : decode cX6_step 20 = .ok (.iand, 1) := by decide +kernel
theorem dX6_step_21 : decode cX6_step 21 = .ok (.istore_n 3, 1) := by decide +kernel
theorem dX6_step_22 : decode cX6_step 22 = .ok (.iload_n 0, 1) := by decide +kernel
theorem dX6_step_23 : decode cX6_step 23 = .ok (.iload_n 2, 1) := by decide +kernel
theorem dX6_step_24 : decode cX6_step 24 = .ok (.iconst (-1), 1) := by decide +kernel
theorem dX6_step_25 : decode cX6_step 25 = .ok (.ixor, 1) := by decide +kernel
theorem dX6_step_26 : decode cX6_step 26 = .ok (.iand, 1) := by decide +kernel
theorem dX6_step_27 : decode cX6_step 27 = .ok (.iload_n 3, 1) := by decide +kernel
theorem dX6_step_28 : decode cX6_step 28 = .ok (.ior, 1) := by decide +kernel
theorem dX6_step_29 : decode cX6_step 29 = .ok (.ireturn, 1) := by decide +kernel
theorem dX6_after_0 : decode cX6_after 0 = .ok (.iload_n 0, 1) := by decide +kernel
theorem dX6_after_1 : decode cX6_after 1 = .ok (.istore_n 3, 1) := by decide +kernel
theorem dX6_after_2 : decode cX6_after 2 = .ok (.iconst 0, 1) := by decide +kernel
theorem dX6_after_3 : decode cX6_after 3 = .ok (.istore 4, 2) := by decide +kernel
theorem dX6_after_5 : decode cX6_after 5 = .ok (.iload 4, 2) := by decide +kernel
theorem dX6_after_7 : decode cX6_after 7 = .ok (.iload_n 1, 1) := by decide +kernel
theorem dX6_after_8 : decode cX6_after 8 = .ok (.if_icmp .ge 15, 3) := by decide +kernel
theorem dX6_after_11 : decode cX6_after 11 = .ok (.iload_n 3, 1) := by decide +kernel
theorem dX6_after_12 : decode cX6_after 12 = .ok (.iload_n 2, 1) := by decide +kernel
theorem dX6_after_13 : decode cX6_after 13 = .ok (.invokestatic 15, 3) := by decide +kernel
theorem dX6_after_16 : decode cX6_after 16 = .ok (.istore_n 3, 1) := by decide +kernel
theorem dX6_after_17 : decode cX6_after 17 = .ok (.iinc 4 1, 3) := by decide +kernel
theorem dX6_after_20 : decode cX6_after 20 = .ok (.goto (-15), 3) := by decide +kernel
theorem dX6_after_23 : decode cX6_after 23 = .ok (.iload_n 3, 1) := by decide +kernel
theorem dX6_after_24 : decode cX6_after 24 = .ok (.ireturn, 1) := by decide +kernel
theorem dX6_onRound_0 : decode cX6_onRound 0 = .ok (.iload_n 0, 1) := by decide +kernel
theorem dX6_onRound_1 : decode cX6_onRound 1 = .ok (.iconst 1, 1) := by decide +kernel
theorem dX6_onRound_2 : decode cX6_onRound 2 = .ok (.iload_n 1, 1) := by decide +kernel
