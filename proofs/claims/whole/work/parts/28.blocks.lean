/-! each block by its place, each method's locals -/
theorem pg_Row_init_0 : zprog 0 0 = [(0, .aload 0, []), (1, .invokespecial 0, []), (4, .aload 0, []), (5, .iconst 0, []), (6, .iload 1, []), (7, .invokestatic 0, [0]), (10, .newarray .int, [0]), (12, .putfield 0, [4, 0, 2]), (15, .aload 0, []), (16, .iconst 0, []), (17, .putfield 0, [4, 1, 0]), (20, .return_, [])] := rfl
theorem pg_Row_size_0 : zprog 1 0 = [(0, .aload 0, []), (1, .getfield 0, [4, 1]), (4, .ireturn, [])] := rfl
theorem pg_Row_at_0 : zprog 2 0 = [(0, .iload 1, []), (1, .ifCond .lt 0, [1]), (4, .iload 1, []), (5, .aload 0, []), (6, .getfield 0, [4, 1]), (9, .if_icmp .ge 0, [1]), (12, .iload 1, []), (13, .aload 0, []), (14, .getfield 0, [4, 0]), (17, .arraylength, []), (18, .if_icmp .ge 0, [1]), (21, .aload 0, []), (22, .getfield 0, [4, 0]), (25, .iload 1, []), (26, .iaload, []), (27, .goto 0, [2])] := rfl
theorem pg_Row_at_1 : zprog 2 1 = [(30, .iconst 0, []), (31, .nop, [2])] := rfl
theorem pg_Row_at_2 : zprog 2 2 = [(31, .ireturn, [])] := rfl
theorem pg_Row_put_0 : zprog 3 0 = [(0, .iload 1, []), (1, .ifCond .lt 0, [1]), (4, .iload 1, []), (5, .aload 0, []), (6, .getfield 0, [4, 1]), (9, .if_icmp .ge 0, [1]), (12, .iload 1, []), (13, .aload 0, []), (14, .getfield 0, [4, 0]), (17, .arraylength, []), (18, .if_icmp .ge 0, [1]), (21, .aload 0, []), (22, .getfield 0, [4, 0]), (25, .iload 1, []), (26, .iload 2, []), (27, .iastore, []), (28, .nop, [1])] := rfl
theorem pg_Row_put_1 : zprog 3 1 = [(28, .return_, [])] := rfl
theorem pg_Row_add_0 : zprog 4 0 = [(0, .aload 0, []), (1, .getfield 0, [4, 1]), (4, .ifCond .lt 0, [1]), (7, .aload 0, []), (8, .getfield 0, [4, 1]), (11, .aload 0, []), (12, .getfield 0, [4, 0]), (15, .arraylength, []), (16, .if_icmp .ge 0, [1]), (19, .aload 0, []), (20, .getfield 0, [4, 0]), (23, .aload 0, []), (24, .getfield 0, [4, 1]), (27, .iload 1, []), (28, .iastore, []), (29, .aload 0, []), (30, .dup, []), (31, .getfield 0, [4, 1]), (34, .iconst 1, []), (35, .iadd, []), (36, .putfield 0, [4, 1, 0]), (39, .nop, [1])] := rfl
theorem pg_Row_add_1 : zprog 4 1 = [(39, .return_, [])] := rfl
theorem pg_Row_insert_0 : zprog 5 0 = [(0, .aload 0, []), (1, .iconst 0, []), (2, .invokevirtual 0, [4, 2, 4]), (5, .aload 0, []), (6, .getfield 0, [4, 1]), (9, .iconst 1, []), (10, .isub, []), (11, .istore 3, []), (12, .nop, [1])] := rfl
theorem pg_Row_insert_1 : zprog 5 1 = [(12, .iload 3, []), (13, .iload 1, []), (14, .if_icmp .le 0, [2]), (17, .iload 3, []), (18, .ifCond .le 0, [2]), (21, .aload 0, []), (22, .iload 3, []), (23, .aload 0, []), (24, .iload 3, []), (25, .iconst 1, []), (26, .isub, []), (27, .invokevirtual 0, [2, 2, 4]), (30, .invokevirtual 0, [3, 3, 4]), (33, .iinc 3 (-1), []), (36, .goto 0, [1])] := rfl
theorem pg_Row_insert_2 : zprog 5 2 = [(39, .aload 0, []), (40, .iload 1, []), (41, .iload 2, []), (42, .invokevirtual 0, [3, 3, 4]), (45, .return_, [])] := rfl
theorem pg_Row_drop_0 : zprog 6 0 = [(0, .iload 1, []), (1, .ifCond .lt 0, [3]), (4, .iload 1, []), (5, .aload 0, []), (6, .getfield 0, [4, 1]), (9, .if_icmp .ge 0, [3]), (12, .iload 1, []), (13, .istore 2, []), (14, .nop, [1])] := rfl
theorem pg_Row_drop_1 : zprog 6 1 = [(14, .iload 2, []), (15, .aload 0, []), (16, .getfield 0, [4, 1]), (19, .iconst 1, []), (20, .isub, []), (21, .if_icmp .ge 0, [2]), (24, .aload 0, []), (25, .iload 2, []), (26, .aload 0, []), (27, .iload 2, []), (28, .iconst 1, []), (29, .iadd, []), (30, .invokevirtual 0, [2, 2, 4]), (33, .invokevirtual 0, [3, 3, 4]), (36, .iinc 2 1, []), (39, .goto 0, [1])] := rfl
theorem pg_Row_drop_2 : zprog 6 2 = [(42, .aload 0, []), (43, .dup, []), (44, .getfield 0, [4, 1]), (47, .iconst 1, []), (48, .isub, []), (49, .putfield 0, [4, 1, 0]), (52, .nop, [3])] := rfl
theorem pg_Row_drop_3 : zprog 6 3 = [(52, .return_, [])] := rfl
theorem pg_Row_empty_0 : zprog 7 0 = [(0, .aload 0, []), (1, .iconst 0, []), (2, .putfield 0, [4, 1, 0]), (5, .return_, [])] := rfl
theorem pg_Row_fill_0 : zprog 8 0 = [(0, .aload 0, []), (1, .iconst 0, []), (2, .iload 1, []), (3, .aload 0, []), (4, .getfield 0, [4, 0]), (7, .arraylength, []), (8, .invokestatic 0, [1]), (11, .invokestatic 0, [0]), (14, .putfield 0, [4, 1, 0]), (17, .iconst 0, []), (18, .istore 3, []), (19, .nop, [1])] := rfl
theorem pg_Row_fill_1 : zprog 8 1 = [(19, .iload 3, []), (20, .aload 0, []), (21, .getfield 0, [4, 1]), (24, .if_icmp .ge 0, [2]), (27, .aload 0, []), (28, .iload 3, []), (29, .iload 2, []), (30, .invokevirtual 0, [3, 3, 4]), (33, .iinc 3 1, []), (36, .goto 0, [1])] := rfl
theorem pg_Row_fill_2 : zprog 8 2 = [(39, .return_, [])] := rfl
theorem pg_Row_copyOf_0 : zprog 9 0 = [(0, .aload 0, []), (1, .invokevirtual 0, [7, 1, 4]), (4, .iconst 0, []), (5, .istore 2, []), (6, .nop, [1])] := rfl
theorem pg_Row_copyOf_1 : zprog 9 1 = [(6, .iload 2, []), (7, .aload 1, []), (8, .invokevirtual 0, [1, 1, 4]), (11, .if_icmp .ge 0, [2]), (14, .aload 0, []), (15, .aload 1, []), (16, .iload 2, []), (17, .invokevirtual 0, [2, 2, 4]), (20, .invokevirtual 0, [4, 2, 4]), (23, .iinc 2 1, []), (26, .goto 0, [1])] := rfl
theorem pg_Row_copyOf_2 : zprog 9 2 = [(29, .return_, [])] := rfl
theorem pg_Row_isLike_0 : zprog 10 0 = [(0, .aload 0, []), (1, .getfield 0, [4, 1]), (4, .aload 1, []), (5, .invokevirtual 0, [1, 1, 4]), (8, .if_icmp .eq 0, [1]), (11, .iconst 0, []), (12, .ireturn, [2])] := rfl
theorem pg_Row_isLike_1 : zprog 10 1 = [(13, .iconst 0, []), (14, .istore 2, []), (15, .nop, [2])] := rfl
theorem pg_Row_isLike_2 : zprog 10 2 = [(15, .iload 2, []), (16, .aload 0, []), (17, .getfield 0, [4, 1]), (20, .if_icmp .ge 0, [4]), (23, .aload 0, []), (24, .iload 2, []), (25, .invokevirtual 0, [2, 2, 4]), (28, .aload 1, []), (29, .iload 2, []), (30, .invokevirtual 0, [2, 2, 4]), (33, .if_icmp .eq 0, [3]), (36, .iconst 0, []), (37, .ireturn, [2])] := rfl
theorem pg_Row_isLike_3 : zprog 10 3 = [(38, .iinc 2 1, []), (41, .goto 0, [2])] := rfl
theorem pg_Row_isLike_4 : zprog 10 4 = [(44, .iconst 1, []), (45, .ireturn, [2])] := rfl
theorem pg_Row_placeOf_0 : zprog 11 0 = [(0, .iconst 0, []), (1, .istore 2, []), (2, .nop, [1])] := rfl
theorem pg_Row_placeOf_1 : zprog 11 1 = [(2, .iload 2, []), (3, .aload 0, []), (4, .getfield 0, [4, 1]), (7, .if_icmp .ge 0, [3]), (10, .aload 0, []), (11, .iload 2, []), (12, .invokevirtual 0, [2, 2, 4]), (15, .iload 1, []), (16, .if_icmp .ne 0, [2]), (19, .iload 2, []), (20, .ireturn, [])] := rfl
theorem pg_Row_placeOf_2 : zprog 11 2 = [(21, .iinc 2 1, []), (24, .goto 0, [1])] := rfl
theorem pg_Row_placeOf_3 : zprog 11 3 = [(27, .iconst (-1), []), (28, .ireturn, [])] := rfl
theorem pg_Row_timesOf_0 : zprog 12 0 = [(0, .iconst 0, []), (1, .istore 2, []), (2, .iconst 0, []), (3, .istore 3, []), (4, .nop, [1])] := rfl
theorem pg_Row_timesOf_1 : zprog 12 1 = [(4, .iload 3, []), (5, .aload 0, []), (6, .getfield 0, [4, 1]), (9, .if_icmp .ge 0, [4]), (12, .iload 2, []), (13, .aload 0, []), (14, .iload 3, []), (15, .invokevirtual 0, [2, 2, 4]), (18, .iload 1, []), (19, .if_icmp .ne 0, [2]), (22, .iconst 1, []), (23, .goto 0, [3])] := rfl
theorem pg_Row_timesOf_2 : zprog 12 2 = [(26, .iconst 0, []), (27, .nop, [3])] := rfl
theorem pg_Row_timesOf_3 : zprog 12 3 = [(27, .iadd, []), (28, .istore 2, []), (29, .iinc 3 1, []), (32, .goto 0, [1])] := rfl
theorem pg_Row_timesOf_4 : zprog 12 4 = [(35, .iload 2, []), (36, .ireturn, [])] := rfl
theorem pg_Row_total_0 : zprog 13 0 = [(0, .iconst 0, []), (1, .istore 1, []), (2, .iconst 0, []), (3, .istore 2, []), (4, .nop, [1])] := rfl
theorem pg_Row_total_1 : zprog 13 1 = [(4, .iload 2, []), (5, .aload 0, []), (6, .getfield 0, [4, 1]), (9, .if_icmp .ge 0, [2]), (12, .iload 1, []), (13, .aload 0, []), (14, .iload 2, []), (15, .invokevirtual 0, [2, 2, 4]), (18, .iadd, []), (19, .istore 1, []), (20, .iinc 2 1, []), (23, .goto 0, [1])] := rfl
theorem pg_Row_total_2 : zprog 13 2 = [(26, .iload 1, []), (27, .ireturn, [])] := rfl
theorem pg_Row_addTo_0 : zprog 14 0 = [(0, .lload 1, []), (1, .lstore 3, []), (2, .iconst 0, []), (3, .istore 5, []), (5, .nop, [1])] := rfl
theorem pg_Row_addTo_1 : zprog 14 1 = [(5, .iload 5, []), (7, .aload 0, []), (8, .getfield 0, [4, 1]), (11, .if_icmp .ge 0, [2]), (14, .ldc2_w 0, [31, 0]), (17, .lload 3, []), (18, .lmul, []), (19, .aload 0, []), (20, .iload 5, []), (22, .invokevirtual 0, [2, 2, 4]), (25, .i2l, []), (26, .ladd, []), (27, .lstore 3, []), (28, .iinc 5 1, []), (31, .goto 0, [1])] := rfl
theorem pg_Row_addTo_2 : zprog 14 2 = [(34, .lload 3, []), (35, .lreturn, [])] := rfl
theorem pg_Row_sortPlacesOf_0 : zprog 15 0 = [(0, .aload 0, []), (1, .invokevirtual 0, [7, 1, 4]), (4, .iconst 0, []), (5, .istore 2, []), (6, .nop, [1])] := rfl
theorem pg_Row_sortPlacesOf_1 : zprog 15 1 = [(6, .iload 2, []), (7, .aload 1, []), (8, .invokevirtual 0, [1, 1, 4]), (11, .if_icmp .ge 0, [5]), (14, .aload 1, []), (15, .iload 2, []), (16, .invokevirtual 0, [2, 2, 4]), (19, .ifCond .le 0, [4]), (22, .aload 0, []), (23, .iload 2, []), (24, .invokevirtual 0, [4, 2, 4]), (27, .aload 0, []), (28, .getfield 0, [4, 1]), (31, .iconst 1, []), (32, .isub, []), (33, .istore 3, []), (34, .nop, [2])] := rfl
theorem pg_Row_sortPlacesOf_2 : zprog 15 2 = [(34, .iload 3, []), (35, .ifCond .le 0, [3]), (38, .aload 1, []), (39, .aload 0, []), (40, .iload 3, []), (41, .iconst 1, []), (42, .isub, []), (43, .invokevirtual 0, [2, 2, 4]), (46, .invokevirtual 0, [2, 2, 4]), (49, .aload 1, []), (50, .iload 2, []), (51, .invokevirtual 0, [2, 2, 4]), (54, .if_icmp .le 0, [3]), (57, .aload 0, []), (58, .iload 3, []), (59, .aload 0, []), (60, .iload 3, []), (61, .iconst 1, []), (62, .isub, []), (63, .invokevirtual 0, [2, 2, 4]), (66, .invokevirtual 0, [3, 3, 4]), (69, .iinc 3 (-1), []), (72, .goto 0, [2])] := rfl
theorem pg_Row_sortPlacesOf_3 : zprog 15 3 = [(75, .aload 0, []), (76, .iload 3, []), (77, .iload 2, []), (78, .invokevirtual 0, [3, 3, 4]), (81, .nop, [4])] := rfl
theorem pg_Row_sortPlacesOf_4 : zprog 15 4 = [(81, .iinc 2 1, []), (84, .goto 0, [1])] := rfl
theorem pg_Row_sortPlacesOf_5 : zprog 15 5 = [(87, .return_, [])] := rfl
theorem pg_Code_init_0 : zprog 16 0 = [(0, .aload 0, []), (1, .invokespecial 0, []), (4, .aload 0, []), (5, .iload 1, []), (6, .putfield 0, [0, 0, 1]), (9, .aload 0, []), (10, .new 0, [4, 0]), (13, .dup, []), (14, .iload 2, []), (15, .invokespecial 0, [0, 2]), (18, .putfield 0, [0, 1, 2]), (21, .aload 0, []), (22, .new 0, [4, 0]), (25, .dup, []), (26, .iload 2, []), (27, .invokespecial 0, [0, 2]), (30, .putfield 0, [0, 2, 2]), (33, .aload 0, []), (34, .getfield 0, [0, 1]), (37, .iload 2, []), (38, .iconst (-1), []), (39, .invokevirtual 0, [8, 3, 4]), (42, .aload 0, []), (43, .getfield 0, [0, 2]), (46, .iload 2, []), (47, .iconst 0, []), (48, .invokevirtual 0, [8, 3, 4]), (51, .return_, [])] := rfl
theorem pg_Code_hasTriples_0 : zprog 17 0 = [(0, .aload 0, []), (1, .getfield 0, [0, 0]), (4, .iconst 116, []), (6, .if_icmp .ne 0, [1]), (9, .iconst 1, []), (10, .goto 0, [2])] := rfl
theorem pg_Code_hasTriples_1 : zprog 17 1 = [(13, .iconst 0, []), (14, .nop, [2])] := rfl
theorem pg_Code_hasTriples_2 : zprog 17 2 = [(14, .ireturn, [2])] := rfl
theorem pg_Code_signsWithWord_0 : zprog 18 0 = [(0, .aload 0, []), (1, .getfield 0, [0, 1]), (4, .invokevirtual 0, [1, 1, 4]), (7, .aload 0, []), (8, .getfield 0, [0, 1]), (11, .iconst (-1), []), (12, .invokevirtual 0, [12, 2, 4]), (15, .isub, []), (16, .ireturn, [])] := rfl
theorem pg_Code_longestLength_0 : zprog 19 0 = [(0, .iconst 0, []), (1, .istore 1, []), (2, .iconst 0, []), (3, .istore 2, []), (4, .nop, [1])] := rfl
theorem pg_Code_longestLength_1 : zprog 19 1 = [(4, .iload 2, []), (5, .aload 0, []), (6, .getfield 0, [0, 1]), (9, .invokevirtual 0, [1, 1, 4]), (12, .if_icmp .ge 0, [2]), (15, .iload 1, []), (16, .aload 0, []), (17, .getfield 0, [0, 1]), (20, .iload 2, []), (21, .invokevirtual 0, [2, 2, 4]), (24, .invokestatic 0, [0]), (27, .istore 1, []), (28, .iinc 2 1, []), (31, .goto 0, [1])] := rfl
theorem pg_Code_longestLength_2 : zprog 19 2 = [(34, .iload 1, []), (35, .ireturn, [])] := rfl
theorem pg_Code_hasWordsFor_0 : zprog 20 0 = [(0, .iconst 0, []), (1, .istore 2, []), (2, .nop, [1])] := rfl
theorem pg_Code_hasWordsFor_1 : zprog 20 1 = [(2, .iload 2, []), (3, .aload 1, []), (4, .invokevirtual 0, [1, 1, 4]), (7, .if_icmp .ge 0, [3]), (10, .aload 0, []), (11, .getfield 0, [0, 1]), (14, .aload 1, []), (15, .iload 2, []), (16, .invokevirtual 0, [2, 2, 4]), (19, .invokevirtual 0, [2, 2, 4]), (22, .ifCond .ge 0, [2]), (25, .iconst 0, []), (26, .ireturn, [2])] := rfl
theorem pg_Code_hasWordsFor_2 : zprog 20 2 = [(27, .iinc 2 1, []), (30, .goto 0, [1])] := rfl
theorem pg_Code_hasWordsFor_3 : zprog 20 3 = [(33, .iconst 1, []), (34, .ireturn, [2])] := rfl
theorem pg_Code_withDigits_0 : zprog 21 0 = [(0, .lload 1, []), (1, .lstore 4, []), (3, .iconst 0, []), (4, .istore 6, []), (6, .nop, [1])] := rfl
theorem pg_Code_withDigits_1 : zprog 21 1 = [(6, .iload 6, []), (8, .iload 3, []), (9, .if_icmp .ge 0, [4]), (12, .lload 4, []), (14, .aload 0, []), (15, .invokevirtual 0, [17, 1, 0]), (18, .ifCond .eq 0, [2]), (21, .ldc2_w 0, [3, 0]), (24, .goto 0, [3])] := rfl
theorem pg_Code_withDigits_2 : zprog 21 2 = [(27, .ldc2_w 0, [2, 0]), (30, .nop, [3])] := rfl
theorem pg_Code_withDigits_3 : zprog 21 3 = [(30, .lmul, []), (31, .lstore 4, []), (33, .iinc 6 1, []), (36, .goto 0, [1])] := rfl
theorem pg_Code_withDigits_4 : zprog 21 4 = [(39, .lload 4, []), (41, .lreturn, [])] := rfl
theorem pg_Code_withoutDigits_0 : zprog 22 0 = [(0, .iload 1, []), (1, .istore 3, []), (2, .iconst 0, []), (3, .istore 4, []), (5, .nop, [1])] := rfl
theorem pg_Code_withoutDigits_1 : zprog 22 1 = [(5, .iload 4, []), (7, .iload 2, []), (8, .if_icmp .ge 0, [4]), (11, .aload 0, []), (12, .invokevirtual 0, [17, 1, 0]), (15, .ifCond .eq 0, [2]), (18, .iload 3, []), (19, .iconst 3, []), (20, .idiv, []), (21, .goto 0, [3])] := rfl
theorem pg_Code_withoutDigits_2 : zprog 22 2 = [(24, .iload 3, []), (25, .iconst 2, []), (26, .idiv, []), (27, .nop, [3])] := rfl
theorem pg_Code_withoutDigits_3 : zprog 22 3 = [(27, .istore 3, []), (28, .iinc 4 1, []), (31, .goto 0, [1])] := rfl
theorem pg_Code_withoutDigits_4 : zprog 22 4 = [(34, .iload 3, []), (35, .ireturn, [])] := rfl
theorem pg_Code_layByLengths_0 : zprog 23 0 = [(0, .aload 0, []), (1, .invokevirtual 0, [19, 1, 0]), (4, .istore 1, []), (5, .iconst 0, []), (6, .istore 2, []), (7, .iconst 0, []), (8, .istore 3, []), (9, .nop, [1])] := rfl
theorem pg_Code_layByLengths_1 : zprog 23 1 = [(9, .iload 3, []), (10, .iload 1, []), (11, .if_icmp .gt 0, [7]), (14, .iconst 0, []), (15, .istore 4, []), (17, .nop, [2])] := rfl
theorem pg_Code_layByLengths_2 : zprog 23 2 = [(17, .iload 4, []), (19, .aload 0, []), (20, .getfield 0, [0, 1]), (23, .invokevirtual 0, [1, 1, 4]), (26, .if_icmp .ge 0, [4]), (29, .aload 0, []), (30, .getfield 0, [0, 1]), (33, .iload 4, []), (35, .invokevirtual 0, [2, 2, 4]), (38, .iload 3, []), (39, .if_icmp .ne 0, [3]), (42, .aload 0, []), (43, .getfield 0, [0, 2]), (46, .iload 4, []), (48, .iload 2, []), (49, .invokevirtual 0, [3, 3, 4]), (52, .iinc 2 1, []), (55, .nop, [3])] := rfl
theorem pg_Code_layByLengths_3 : zprog 23 3 = [(55, .iinc 4 1, []), (58, .goto 0, [2])] := rfl
theorem pg_Code_layByLengths_4 : zprog 23 4 = [(61, .iload 2, []), (62, .aload 0, []), (63, .invokevirtual 0, [17, 1, 0]), (66, .ifCond .eq 0, [5]), (69, .iconst 3, []), (70, .goto 0, [6])] := rfl
theorem pg_Code_layByLengths_5 : zprog 23 5 = [(73, .iconst 2, []), (74, .nop, [6])] := rfl
theorem pg_Code_layByLengths_6 : zprog 23 6 = [(74, .imul, []), (75, .istore 2, []), (76, .iinc 3 1, []), (79, .goto 0, [1])] := rfl
theorem pg_Code_layByLengths_7 : zprog 23 7 = [(82, .return_, [])] := rfl
theorem pg_Code_layBySigns_0 : zprog 24 0 = [(0, .iconst 0, []), (1, .istore 1, []), (2, .iconst (-1), []), (3, .istore 2, []), (4, .iconst 0, []), (5, .istore 3, []), (6, .nop, [1])] := rfl
theorem pg_Code_layBySigns_1 : zprog 24 1 = [(6, .iload 3, []), (7, .aload 0, []), (8, .getfield 0, [0, 1]), (11, .invokevirtual 0, [1, 1, 4]), (14, .if_icmp .ge 0, [6]), (17, .aload 0, []), (18, .getfield 0, [0, 1]), (21, .iload 3, []), (22, .invokevirtual 0, [2, 2, 4]), (25, .istore 4, []), (27, .iload 4, []), (29, .ifCond .lt 0, [5]), (32, .iload 2, []), (33, .ifCond .lt 0, [4]), (36, .iload 4, []), (38, .iload 2, []), (39, .if_icmp .lt 0, [2]), (42, .iload 1, []), (43, .iconst 1, []), (44, .iadd, []), (45, .iload 4, []), (47, .iload 2, []), (48, .isub, []), (49, .ishl, []), (50, .goto 0, [3])] := rfl
theorem pg_Code_layBySigns_2 : zprog 24 2 = [(53, .iload 1, []), (54, .iconst 1, []), (55, .iadd, []), (56, .iload 2, []), (57, .iload 4, []), (59, .isub, []), (60, .ishr, []), (61, .nop, [3])] := rfl
theorem pg_Code_layBySigns_3 : zprog 24 3 = [(61, .istore 1, []), (62, .nop, [4])] := rfl
theorem pg_Code_layBySigns_4 : zprog 24 4 = [(62, .aload 0, []), (63, .getfield 0, [0, 2]), (66, .iload 3, []), (67, .iload 1, []), (68, .invokevirtual 0, [3, 3, 4]), (71, .iload 4, []), (73, .istore 2, []), (74, .nop, [5])] := rfl
theorem pg_Code_layBySigns_5 : zprog 24 5 = [(74, .iinc 3 1, []), (77, .goto 0, [1])] := rfl
theorem pg_Code_layBySigns_6 : zprog 24 6 = [(80, .return_, [])] := rfl
theorem pg_Code_digit_0 : zprog 25 0 = [(0, .aload 0, []), (1, .aload 0, []), (2, .getfield 0, [0, 2]), (5, .iload 1, []), (6, .invokevirtual 0, [2, 2, 4]), (9, .aload 0, []), (10, .getfield 0, [0, 1]), (13, .iload 1, []), (14, .invokevirtual 0, [2, 2, 4]), (17, .iconst 1, []), (18, .isub, []), (19, .iload 2, []), (20, .isub, []), (21, .invokevirtual 0, [22, 3, 0]), (24, .istore 3, []), (25, .aload 0, []), (26, .invokevirtual 0, [17, 1, 0]), (29, .ifCond .eq 0, [1]), (32, .iload 3, []), (33, .iconst 3, []), (34, .irem, []), (35, .goto 0, [2])] := rfl
theorem pg_Code_digit_1 : zprog 25 1 = [(38, .iload 3, []), (39, .iconst 2, []), (40, .irem, []), (41, .nop, [2])] := rfl
theorem pg_Code_digit_2 : zprog 25 2 = [(41, .ireturn, [])] := rfl
theorem pg_Code_share_0 : zprog 26 0 = [(0, .ldc2_w 0, [0, 0]), (1, .lstore 1, []), (2, .iconst 0, []), (3, .istore 3, []), (4, .nop, [1])] := rfl
theorem pg_Code_share_1 : zprog 26 1 = [(4, .iload 3, []), (5, .aload 0, []), (6, .getfield 0, [0, 1]), (9, .invokevirtual 0, [1, 1, 4]), (12, .if_icmp .ge 0, [3]), (15, .aload 0, []), (16, .getfield 0, [0, 1]), (19, .iload 3, []), (20, .invokevirtual 0, [2, 2, 4]), (23, .ifCond .lt 0, [2]), (26, .lload 1, []), (27, .aload 0, []), (28, .ldc2_w 0, [1, 0]), (29, .iconst 25, []), (31, .aload 0, []), (32, .getfield 0, [0, 1]), (35, .iload 3, []), (36, .invokevirtual 0, [2, 2, 4]), (39, .isub, []), (40, .invokevirtual 0, [21, 3, 0]), (43, .ladd, []), (44, .lstore 1, []), (45, .nop, [2])] := rfl
theorem pg_Code_share_2 : zprog 26 2 = [(45, .iinc 3 1, []), (48, .goto 0, [1])] := rfl
theorem pg_Code_share_3 : zprog 26 3 = [(51, .lload 1, []), (52, .lreturn, [])] := rfl
theorem pg_Code_signOfRank_0 : zprog 27 0 = [(0, .ldc2_w 0, [1, 1]), (3, .lstore 2, []), (4, .iconst (-1), []), (5, .istore 4, []), (7, .iconst 0, []), (8, .istore 5, []), (10, .nop, [1])] := rfl
theorem pg_Code_signOfRank_1 : zprog 27 1 = [(10, .iload 5, []), (12, .iload 1, []), (13, .if_icmp .gt 0, [3]), (16, .aload 0, []), (17, .lload 2, []), (18, .invokevirtual 0, [29, 2, 0]), (21, .istore 4, []), (23, .iload 4, []), (25, .ifCond .ge 0, [2]), (28, .iconst (-1), []), (29, .ireturn, [])] := rfl
theorem pg_Code_signOfRank_2 : zprog 27 2 = [(30, .aload 0, []), (31, .iload 4, []), (33, .invokevirtual 0, [28, 2, 0]), (36, .lstore 2, []), (37, .iinc 5 1, []), (40, .goto 0, [1])] := rfl
theorem pg_Code_signOfRank_3 : zprog 27 3 = [(43, .iload 4, []), (45, .ireturn, [])] := rfl
theorem pg_Code_drawnOut_0 : zprog 28 0 = [(0, .aload 0, []), (1, .aload 0, []), (2, .getfield 0, [0, 2]), (5, .iload 1, []), (6, .invokevirtual 0, [2, 2, 4]), (9, .i2l, []), (10, .iconst 25, []), (12, .aload 0, []), (13, .getfield 0, [0, 1]), (16, .iload 1, []), (17, .invokevirtual 0, [2, 2, 4]), (20, .isub, []), (21, .invokevirtual 0, [21, 3, 0]), (24, .lreturn, [])] := rfl
theorem pg_Code_signBehind_0 : zprog 29 0 = [(0, .iconst (-1), []), (1, .istore 3, []), (2, .ldc2_w 0, [0, 0]), (3, .lstore 4, []), (5, .iconst 0, []), (6, .istore 6, []), (8, .nop, [1])] := rfl
theorem pg_Code_signBehind_1 : zprog 29 1 = [(8, .iload 6, []), (10, .aload 0, []), (11, .getfield 0, [0, 1]), (14, .invokevirtual 0, [1, 1, 4]), (17, .if_icmp .ge 0, [4]), (20, .aload 0, []), (21, .getfield 0, [0, 1]), (24, .iload 6, []), (26, .invokevirtual 0, [2, 2, 4]), (29, .ifCond .lt 0, [3]), (32, .aload 0, []), (33, .iload 6, []), (35, .invokevirtual 0, [28, 2, 0]), (38, .lstore 7, []), (40, .lload 7, []), (42, .lload 1, []), (43, .lcmp, []), (44, .ifCond .le 0, [3]), (47, .iload 3, []), (48, .ifCond .lt 0, [2]), (51, .lload 7, []), (53, .lload 4, []), (55, .lcmp, []), (56, .ifCond .ge 0, [3]), (59, .nop, [2])] := rfl
theorem pg_Code_signBehind_2 : zprog 29 2 = [(59, .iload 6, []), (61, .istore 3, []), (62, .lload 7, []), (64, .lstore 4, []), (66, .nop, [3])] := rfl
theorem pg_Code_signBehind_3 : zprog 29 3 = [(66, .iinc 6 1, []), (69, .goto 0, [1])] := rfl
theorem pg_Code_signBehind_4 : zprog 29 4 = [(72, .iload 3, []), (73, .ireturn, [])] := rfl
theorem pg_Code_signBeginning_0 : zprog 30 0 = [(0, .iconst 0, []), (1, .istore 3, []), (2, .nop, [1])] := rfl
theorem pg_Code_signBeginning_1 : zprog 30 1 = [(2, .iload 3, []), (3, .aload 0, []), (4, .getfield 0, [0, 1]), (7, .invokevirtual 0, [1, 1, 4]), (10, .if_icmp .ge 0, [3]), (13, .aload 0, []), (14, .getfield 0, [0, 1]), (17, .iload 3, []), (18, .invokevirtual 0, [2, 2, 4]), (21, .istore 4, []), (23, .iload 4, []), (25, .ifCond .lt 0, [2]), (28, .iload 4, []), (30, .iload 2, []), (31, .if_icmp .gt 0, [2]), (34, .iload 1, []), (35, .iload 2, []), (36, .iload 4, []), (38, .isub, []), (39, .ishr, []), (40, .aload 0, []), (41, .getfield 0, [0, 2]), (44, .iload 3, []), (45, .invokevirtual 0, [2, 2, 4]), (48, .if_icmp .ne 0, [2]), (51, .iload 3, []), (52, .ireturn, [])] := rfl
theorem pg_Code_signBeginning_2 : zprog 30 2 = [(53, .iinc 3 1, []), (56, .goto 0, [1])] := rfl
theorem pg_Code_signBeginning_3 : zprog 30 3 = [(59, .iconst (-1), []), (60, .ireturn, [])] := rfl
theorem pg_Code_someWordBeginsWith_0 : zprog 31 0 = [(0, .iconst 0, []), (1, .istore 3, []), (2, .nop, [1])] := rfl
theorem pg_Code_someWordBeginsWith_1 : zprog 31 1 = [(2, .iload 3, []), (3, .aload 0, []), (4, .getfield 0, [0, 1]), (7, .invokevirtual 0, [1, 1, 4]), (10, .if_icmp .ge 0, [3]), (13, .aload 0, []), (14, .getfield 0, [0, 1]), (17, .iload 3, []), (18, .invokevirtual 0, [2, 2, 4]), (21, .istore 4, []), (23, .iload 4, []), (25, .iload 2, []), (26, .if_icmp .lt 0, [2]), (29, .aload 0, []), (30, .getfield 0, [0, 2]), (33, .iload 3, []), (34, .invokevirtual 0, [2, 2, 4]), (37, .iload 4, []), (39, .iload 2, []), (40, .isub, []), (41, .ishr, []), (42, .iload 1, []), (43, .if_icmp .ne 0, [2]), (46, .iconst 1, []), (47, .ireturn, [2])] := rfl
theorem pg_Code_someWordBeginsWith_2 : zprog 31 2 = [(48, .iinc 3 1, []), (51, .goto 0, [1])] := rfl
theorem pg_Code_someWordBeginsWith_3 : zprog 31 3 = [(54, .iconst 0, []), (55, .ireturn, [2])] := rfl
theorem pg_Code_layWord_0 : zprog 32 0 = [(0, .aload 0, []), (1, .getfield 0, [0, 1]), (4, .iload 1, []), (5, .invokevirtual 0, [2, 2, 4]), (8, .iconst 1, []), (9, .isub, []), (10, .istore 3, []), (11, .nop, [1])] := rfl
theorem pg_Code_layWord_1 : zprog 32 1 = [(11, .iload 3, []), (12, .ifCond .lt 0, [2]), (15, .aload 2, []), (16, .aload 0, []), (17, .getfield 0, [0, 2]), (20, .iload 1, []), (21, .invokevirtual 0, [2, 2, 4]), (24, .iload 3, []), (25, .ishr, []), (26, .iconst 1, []), (27, .iand, []), (28, .invokevirtual 0, [4, 2, 4]), (31, .iinc 3 (-1), []), (34, .goto 0, [1])] := rfl
theorem pg_Code_layWord_2 : zprog 32 2 = [(37, .return_, [])] := rfl
theorem pg_Code_signAhead_0 : zprog 33 0 = [(0, .iconst 25, []), (2, .aload 1, []), (3, .invokevirtual 0, [1, 1, 4]), (6, .iload 2, []), (7, .isub, []), (8, .invokestatic 0, [1]), (11, .istore 4, []), (13, .aload 1, []), (14, .iload 2, []), (15, .iload 4, []), (17, .invokestatic 0, [140, 3]), (20, .istore 5, []), (22, .iload 3, []), (23, .iload 2, []), (24, .if_icmp .lt 0, [1]), (27, .iload 3, []), (28, .iload 2, []), (29, .iload 4, []), (31, .iadd, []), (32, .if_icmp .ge 0, [1]), (35, .iload 5, []), (37, .iconst 1, []), (38, .iload 2, []), (39, .iload 4, []), (41, .iadd, []), (42, .iconst 1, []), (43, .isub, []), (44, .iload 3, []), (45, .isub, []), (46, .ishl, []), (47, .ixor, []), (48, .istore 5, []), (50, .nop, [1])] := rfl
theorem pg_Code_signAhead_1 : zprog 33 1 = [(50, .aload 0, []), (51, .iload 5, []), (53, .iload 4, []), (55, .invokevirtual 0, [30, 3, 0]), (58, .ireturn, [])] := rfl
theorem pg_Code_wordsAreApart_0 : zprog 34 0 = [(0, .iconst 0, []), (1, .istore 1, []), (2, .nop, [1])] := rfl
theorem pg_Code_wordsAreApart_1 : zprog 34 1 = [(2, .iload 1, []), (3, .aload 0, []), (4, .getfield 0, [0, 1]), (7, .invokevirtual 0, [1, 1, 4]), (10, .if_icmp .ge 0, [5]), (13, .iconst 0, []), (14, .istore 2, []), (15, .nop, [2])] := rfl
theorem pg_Code_wordsAreApart_2 : zprog 34 2 = [(15, .iload 2, []), (16, .aload 0, []), (17, .getfield 0, [0, 1]), (20, .invokevirtual 0, [1, 1, 4]), (23, .if_icmp .ge 0, [4]), (26, .iload 1, []), (27, .iload 2, []), (28, .if_icmp .eq 0, [3]), (31, .aload 0, []), (32, .iload 1, []), (33, .iload 2, []), (34, .invokevirtual 0, [35, 3, 0]), (37, .ifCond .eq 0, [3]), (40, .iconst 0, []), (41, .ireturn, [2])] := rfl
theorem pg_Code_wordsAreApart_3 : zprog 34 3 = [(42, .iinc 2 1, []), (45, .goto 0, [2])] := rfl
theorem pg_Code_wordsAreApart_4 : zprog 34 4 = [(48, .iinc 1 1, []), (51, .goto 0, [1])] := rfl
theorem pg_Code_wordsAreApart_5 : zprog 34 5 = [(54, .iconst 1, []), (55, .ireturn, [2])] := rfl
theorem pg_Code_begins_0 : zprog 35 0 = [(0, .aload 0, []), (1, .getfield 0, [0, 1]), (4, .iload 1, []), (5, .invokevirtual 0, [2, 2, 4]), (8, .istore 3, []), (9, .aload 0, []), (10, .getfield 0, [0, 1]), (13, .iload 2, []), (14, .invokevirtual 0, [2, 2, 4]), (17, .iload 3, []), (18, .isub, []), (19, .istore 4, []), (21, .iload 3, []), (22, .ifCond .lt 0, [1]), (25, .iload 4, []), (27, .ifCond .lt 0, [1]), (30, .aload 0, []), (31, .aload 0, []), (32, .getfield 0, [0, 2]), (35, .iload 2, []), (36, .invokevirtual 0, [2, 2, 4]), (39, .iload 4, []), (41, .invokevirtual 0, [22, 3, 0]), (44, .aload 0, []), (45, .getfield 0, [0, 2]), (48, .iload 1, []), (49, .invokevirtual 0, [2, 2, 4]), (52, .if_icmp .ne 0, [1]), (55, .iconst 1, []), (56, .goto 0, [2])] := rfl
theorem pg_Code_begins_1 : zprog 35 1 = [(59, .iconst 0, []), (60, .nop, [2])] := rfl
theorem pg_Code_begins_2 : zprog 35 2 = [(60, .ireturn, [2])] := rfl
theorem pg_Forest_init_0 : zprog 36 0 = [(0, .aload 0, []), (1, .invokespecial 0, []), (4, .aload 0, []), (5, .new 0, [4, 0]), (8, .dup, []), (9, .iconst 120, []), (11, .invokespecial 0, [0, 2]), (14, .putfield 0, [2, 0, 2]), (17, .aload 0, []), (18, .new 0, [4, 0]), (21, .dup, []), (22, .iconst 240, []), (25, .invokespecial 0, [0, 2]), (28, .putfield 0, [2, 1, 2]), (31, .aload 0, []), (32, .new 0, [4, 0]), (35, .dup, []), (36, .iconst 240, []), (39, .invokespecial 0, [0, 2]), (42, .putfield 0, [2, 2, 2]), (45, .aload 0, []), (46, .new 0, [4, 0]), (49, .dup, []), (50, .iconst 240, []), (53, .invokespecial 0, [0, 2]), (56, .putfield 0, [2, 3, 2]), (59, .aload 0, []), (60, .new 0, [4, 0]), (63, .dup, []), (64, .iconst 120, []), (66, .invokespecial 0, [0, 2]), (69, .putfield 0, [2, 4, 2]), (72, .aload 0, []), (73, .iconst 0, []), (74, .putfield 0, [2, 5, 0]), (77, .aload 0, []), (78, .iconst 0, []), (79, .putfield 0, [2, 6, 0]), (82, .return_, [])] := rfl
theorem pg_Forest_joinLightest_0 : zprog 37 0 = [(0, .aload 0, []), (1, .getfield 0, [2, 0]), (4, .aload 1, []), (5, .invokevirtual 0, [15, 2, 4]), (8, .iload 2, []), (9, .ifCond .eq 0, [1]), (12, .aload 0, []), (13, .getfield 0, [2, 0]), (16, .invokevirtual 0, [1, 1, 4]), (19, .iconst 2, []), (20, .irem, []), (21, .ifCond .ne 0, [1]), (24, .aload 0, []), (25, .getfield 0, [2, 0]), (28, .iconst 0, []), (29, .iconst (-1), []), (30, .invokevirtual 0, [5, 3, 4]), (33, .nop, [1])] := rfl
theorem pg_Forest_joinLightest_1 : zprog 37 1 = [(33, .aload 0, []), (34, .aload 1, []), (35, .invokevirtual 0, [38, 2, 2]), (38, .aload 0, []), (39, .iconst 0, []), (40, .putfield 0, [2, 5, 0]), (43, .aload 0, []), (44, .aload 0, []), (45, .getfield 0, [2, 0]), (48, .invokevirtual 0, [1, 1, 4]), (51, .putfield 0, [2, 6, 0]), (54, .iload 2, []), (55, .ifCond .eq 0, [2]), (58, .iconst 3, []), (59, .goto 0, [3])] := rfl
theorem pg_Forest_joinLightest_2 : zprog 37 2 = [(62, .iconst 2, []), (63, .nop, [3])] := rfl
theorem pg_Forest_joinLightest_3 : zprog 37 3 = [(63, .istore 3, []), (64, .aload 0, []), (65, .getfield 0, [2, 0]), (68, .invokevirtual 0, [1, 1, 4]), (71, .istore 4, []), (73, .nop, [4])] := rfl
theorem pg_Forest_joinLightest_4 : zprog 37 4 = [(73, .iload 4, []), (75, .iconst 1, []), (76, .if_icmp .le 0, [7]), (79, .iconst 0, []), (80, .istore 5, []), (82, .iconst 0, []), (83, .istore 6, []), (85, .nop, [5])] := rfl
theorem pg_Forest_joinLightest_5 : zprog 37 5 = [(85, .iload 6, []), (87, .iload 3, []), (88, .if_icmp .ge 0, [6]), (91, .aload 0, []), (92, .invokevirtual 0, [39, 1, 2]), (95, .istore 7, []), (97, .iload 5, []), (99, .aload 0, []), (100, .getfield 0, [2, 1]), (103, .iload 7, []), (105, .invokevirtual 0, [2, 2, 4]), (108, .iadd, []), (109, .istore 5, []), (111, .aload 0, []), (112, .getfield 0, [2, 2]), (115, .iload 7, []), (117, .aload 0, []), (118, .getfield 0, [2, 1]), (121, .invokevirtual 0, [1, 1, 4]), (124, .invokevirtual 0, [3, 3, 4]), (127, .iinc 6 1, []), (130, .goto 0, [5])] := rfl
theorem pg_Forest_joinLightest_6 : zprog 37 6 = [(133, .aload 0, []), (134, .getfield 0, [2, 1]), (137, .iload 5, []), (139, .invokevirtual 0, [4, 2, 4]), (142, .aload 0, []), (143, .getfield 0, [2, 2]), (146, .iconst (-1), []), (147, .invokevirtual 0, [4, 2, 4]), (150, .iload 4, []), (152, .iload 3, []), (153, .isub, []), (154, .iconst 1, []), (155, .iadd, []), (156, .istore 4, []), (158, .goto 0, [4])] := rfl
theorem pg_Forest_joinLightest_7 : zprog 37 7 = [(161, .return_, [])] := rfl
theorem pg_Forest_plant_0 : zprog 38 0 = [(0, .aload 0, []), (1, .getfield 0, [2, 1]), (4, .invokevirtual 0, [7, 1, 4]), (7, .aload 0, []), (8, .getfield 0, [2, 2]), (11, .invokevirtual 0, [7, 1, 4]), (14, .iconst 0, []), (15, .istore 2, []), (16, .nop, [1])] := rfl
theorem pg_Forest_plant_1 : zprog 38 1 = [(16, .iload 2, []), (17, .aload 0, []), (18, .getfield 0, [2, 0]), (21, .invokevirtual 0, [1, 1, 4]), (24, .if_icmp .ge 0, [2]), (27, .aload 0, []), (28, .getfield 0, [2, 1]), (31, .aload 1, []), (32, .aload 0, []), (33, .getfield 0, [2, 0]), (36, .iload 2, []), (37, .invokevirtual 0, [2, 2, 4]), (40, .invokevirtual 0, [2, 2, 4]), (43, .invokevirtual 0, [4, 2, 4]), (46, .aload 0, []), (47, .getfield 0, [2, 2]), (50, .iconst (-1), []), (51, .invokevirtual 0, [4, 2, 4]), (54, .iinc 2 1, []), (57, .goto 0, [1])] := rfl
theorem pg_Forest_plant_2 : zprog 38 2 = [(60, .return_, [])] := rfl
theorem pg_Forest_takeLightest_0 : zprog 39 0 = [(0, .aload 0, []), (1, .getfield 0, [2, 5]), (4, .aload 0, []), (5, .getfield 0, [2, 0]), (8, .invokevirtual 0, [1, 1, 4]), (11, .if_icmp .ge 0, [1]), (14, .iconst 1, []), (15, .goto 0, [2])] := rfl
theorem pg_Forest_takeLightest_1 : zprog 39 1 = [(18, .iconst 0, []), (19, .nop, [2])] := rfl
theorem pg_Forest_takeLightest_2 : zprog 39 2 = [(19, .istore 1, []), (20, .aload 0, []), (21, .getfield 0, [2, 6]), (24, .aload 0, []), (25, .getfield 0, [2, 1]), (28, .invokevirtual 0, [1, 1, 4]), (31, .if_icmp .ge 0, [3]), (34, .iconst 1, []), (35, .goto 0, [4])] := rfl
theorem pg_Forest_takeLightest_3 : zprog 39 3 = [(38, .iconst 0, []), (39, .nop, [4])] := rfl
theorem pg_Forest_takeLightest_4 : zprog 39 4 = [(39, .istore 2, []), (40, .iload 1, []), (41, .ifCond .eq 0, [6]), (44, .iload 2, []), (45, .ifCond .eq 0, [5]), (48, .aload 0, []), (49, .getfield 0, [2, 1]), (52, .aload 0, []), (53, .getfield 0, [2, 5]), (56, .invokevirtual 0, [2, 2, 4]), (59, .aload 0, []), (60, .getfield 0, [2, 1]), (63, .aload 0, []), (64, .getfield 0, [2, 6]), (67, .invokevirtual 0, [2, 2, 4]), (70, .if_icmp .gt 0, [6]), (73, .nop, [5])] := rfl
theorem pg_Forest_takeLightest_5 : zprog 39 5 = [(73, .aload 0, []), (74, .dup, []), (75, .getfield 0, [2, 5]), (78, .iconst 1, []), (79, .iadd, []), (80, .putfield 0, [2, 5, 0]), (83, .aload 0, []), (84, .getfield 0, [2, 5]), (87, .iconst 1, []), (88, .isub, []), (89, .ireturn, [])] := rfl
theorem pg_Forest_takeLightest_6 : zprog 39 6 = [(90, .aload 0, []), (91, .dup, []), (92, .getfield 0, [2, 6]), (95, .iconst 1, []), (96, .iadd, []), (97, .putfield 0, [2, 6, 0]), (100, .aload 0, []), (101, .getfield 0, [2, 6]), (104, .iconst 1, []), (105, .isub, []), (106, .ireturn, [])] := rfl
theorem pg_Forest_joinInOrder_0 : zprog 40 0 = [(0, .aload 0, []), (1, .getfield 0, [2, 0]), (4, .invokevirtual 0, [7, 1, 4]), (7, .iconst 0, []), (8, .istore 2, []), (9, .nop, [1])] := rfl
theorem pg_Forest_joinInOrder_1 : zprog 40 1 = [(9, .iload 2, []), (10, .aload 1, []), (11, .invokevirtual 0, [1, 1, 4]), (14, .if_icmp .ge 0, [3]), (17, .aload 1, []), (18, .iload 2, []), (19, .invokevirtual 0, [2, 2, 4]), (22, .ifCond .le 0, [2]), (25, .aload 0, []), (26, .getfield 0, [2, 0]), (29, .iload 2, []), (30, .invokevirtual 0, [4, 2, 4]), (33, .nop, [2])] := rfl
theorem pg_Forest_joinInOrder_2 : zprog 40 2 = [(33, .iinc 2 1, []), (36, .goto 0, [1])] := rfl
theorem pg_Forest_joinInOrder_3 : zprog 40 3 = [(39, .aload 0, []), (40, .aload 1, []), (41, .invokevirtual 0, [38, 2, 2]), (44, .aload 0, []), (45, .getfield 0, [2, 4]), (48, .invokevirtual 0, [7, 1, 4]), (51, .iconst 0, []), (52, .istore 2, []), (53, .nop, [4])] := rfl
theorem pg_Forest_joinInOrder_4 : zprog 40 4 = [(53, .iload 2, []), (54, .aload 0, []), (55, .getfield 0, [2, 0]), (58, .invokevirtual 0, [1, 1, 4]), (61, .if_icmp .ge 0, [5]), (64, .aload 0, []), (65, .getfield 0, [2, 4]), (68, .iload 2, []), (69, .invokevirtual 0, [4, 2, 4]), (72, .iinc 2 1, []), (75, .goto 0, [4])] := rfl
theorem pg_Forest_joinInOrder_5 : zprog 40 5 = [(78, .aload 0, []), (79, .getfield 0, [2, 0]), (82, .invokevirtual 0, [1, 1, 4]), (85, .istore 2, []), (86, .nop, [6])] := rfl
theorem pg_Forest_joinInOrder_6 : zprog 40 6 = [(86, .iload 2, []), (87, .iconst 1, []), (88, .if_icmp .le 0, [7]), (91, .aload 0, []), (92, .aload 0, []), (93, .invokevirtual 0, [42, 1, 2]), (96, .invokevirtual 0, [43, 2, 2]), (99, .iinc 2 (-1), []), (102, .goto 0, [6])] := rfl
theorem pg_Forest_joinInOrder_7 : zprog 40 7 = [(105, .return_, [])] := rfl
theorem pg_Forest_weightInLine_0 : zprog 41 0 = [(0, .aload 0, []), (1, .getfield 0, [2, 1]), (4, .aload 0, []), (5, .getfield 0, [2, 4]), (8, .iload 1, []), (9, .invokevirtual 0, [2, 2, 4]), (12, .invokevirtual 0, [2, 2, 4]), (15, .ireturn, [])] := rfl
theorem pg_Forest_firstToJoin_0 : zprog 42 0 = [(0, .iconst 1, []), (1, .istore 1, []), (2, .nop, [1])] := rfl
theorem pg_Forest_firstToJoin_1 : zprog 42 1 = [(2, .iload 1, []), (3, .iconst 1, []), (4, .iadd, []), (5, .aload 0, []), (6, .getfield 0, [2, 4]), (9, .invokevirtual 0, [1, 1, 4]), (12, .if_icmp .ge 0, [3]), (15, .aload 0, []), (16, .iload 1, []), (17, .iconst 1, []), (18, .iadd, []), (19, .invokevirtual 0, [41, 2, 2]), (22, .aload 0, []), (23, .iload 1, []), (24, .iconst 1, []), (25, .isub, []), (26, .invokevirtual 0, [41, 2, 2]), (29, .if_icmp .lt 0, [2]), (32, .iload 1, []), (33, .ireturn, [])] := rfl
theorem pg_Forest_firstToJoin_2 : zprog 42 2 = [(34, .iinc 1 1, []), (37, .goto 0, [1])] := rfl
theorem pg_Forest_firstToJoin_3 : zprog 42 3 = [(40, .aload 0, []), (41, .getfield 0, [2, 4]), (44, .invokevirtual 0, [1, 1, 4]), (47, .iconst 1, []), (48, .isub, []), (49, .ireturn, [])] := rfl
theorem pg_Forest_joinInLine_0 : zprog 43 0 = [(0, .aload 0, []), (1, .getfield 0, [2, 1]), (4, .invokevirtual 0, [1, 1, 4]), (7, .istore 2, []), (8, .aload 0, []), (9, .iload 1, []), (10, .iconst 1, []), (11, .isub, []), (12, .invokevirtual 0, [41, 2, 2]), (15, .aload 0, []), (16, .iload 1, []), (17, .invokevirtual 0, [41, 2, 2]), (20, .iadd, []), (21, .istore 3, []), (22, .aload 0, []), (23, .getfield 0, [2, 1]), (26, .iload 3, []), (27, .invokevirtual 0, [4, 2, 4]), (30, .aload 0, []), (31, .getfield 0, [2, 2]), (34, .iconst (-1), []), (35, .invokevirtual 0, [4, 2, 4]), (38, .aload 0, []), (39, .getfield 0, [2, 2]), (42, .aload 0, []), (43, .getfield 0, [2, 4]), (46, .iload 1, []), (47, .iconst 1, []), (48, .isub, []), (49, .invokevirtual 0, [2, 2, 4]), (52, .iload 2, []), (53, .invokevirtual 0, [3, 3, 4]), (56, .aload 0, []), (57, .getfield 0, [2, 2]), (60, .aload 0, []), (61, .getfield 0, [2, 4]), (64, .iload 1, []), (65, .invokevirtual 0, [2, 2, 4]), (68, .iload 2, []), (69, .invokevirtual 0, [3, 3, 4]), (72, .aload 0, []), (73, .getfield 0, [2, 4]), (76, .iload 1, []), (77, .invokevirtual 0, [6, 2, 4]), (80, .aload 0, []), (81, .getfield 0, [2, 4]), (84, .iload 1, []), (85, .iconst 1, []), (86, .isub, []), (87, .invokevirtual 0, [6, 2, 4]), (90, .iload 1, []), (91, .iconst 1, []), (92, .isub, []), (93, .istore 4, []), (95, .nop, [1])] := rfl
theorem pg_Forest_joinInLine_1 : zprog 43 1 = [(95, .iload 4, []), (97, .ifCond .le 0, [2]), (100, .aload 0, []), (101, .iload 4, []), (103, .iconst 1, []), (104, .isub, []), (105, .invokevirtual 0, [41, 2, 2]), (108, .iload 3, []), (109, .if_icmp .ge 0, [2]), (112, .iinc 4 (-1), []), (115, .goto 0, [1])] := rfl
theorem pg_Forest_joinInLine_2 : zprog 43 2 = [(118, .aload 0, []), (119, .getfield 0, [2, 4]), (122, .iload 4, []), (124, .iload 2, []), (125, .invokevirtual 0, [5, 3, 4]), (128, .return_, [])] := rfl
theorem pg_Forest_measure_0 : zprog 44 0 = [(0, .aload 0, []), (1, .getfield 0, [2, 3]), (4, .aload 0, []), (5, .getfield 0, [2, 1]), (8, .invokevirtual 0, [1, 1, 4]), (11, .iconst 0, []), (12, .invokevirtual 0, [8, 3, 4]), (15, .aload 0, []), (16, .getfield 0, [2, 1]), (19, .invokevirtual 0, [1, 1, 4]), (22, .iconst 2, []), (23, .isub, []), (24, .istore 2, []), (25, .nop, [1])] := rfl
theorem pg_Forest_measure_1 : zprog 44 1 = [(25, .iload 2, []), (26, .ifCond .lt 0, [2]), (29, .aload 0, []), (30, .getfield 0, [2, 3]), (33, .iload 2, []), (34, .aload 0, []), (35, .getfield 0, [2, 3]), (38, .aload 0, []), (39, .getfield 0, [2, 2]), (42, .iload 2, []), (43, .invokevirtual 0, [2, 2, 4]), (46, .invokevirtual 0, [2, 2, 4]), (49, .iconst 1, []), (50, .iadd, []), (51, .invokevirtual 0, [3, 3, 4]), (54, .iinc 2 (-1), []), (57, .goto 0, [1])] := rfl
theorem pg_Forest_measure_2 : zprog 44 2 = [(60, .aload 1, []), (61, .aload 1, []), (62, .invokevirtual 0, [1, 1, 4]), (65, .iconst (-1), []), (66, .invokevirtual 0, [8, 3, 4]), (69, .iconst 0, []), (70, .istore 2, []), (71, .nop, [3])] := rfl
theorem pg_Forest_measure_3 : zprog 44 3 = [(71, .iload 2, []), (72, .aload 0, []), (73, .getfield 0, [2, 0]), (76, .invokevirtual 0, [1, 1, 4]), (79, .if_icmp .ge 0, [4]), (82, .aload 1, []), (83, .aload 0, []), (84, .getfield 0, [2, 0]), (87, .iload 2, []), (88, .invokevirtual 0, [2, 2, 4]), (91, .aload 0, []), (92, .getfield 0, [2, 3]), (95, .iload 2, []), (96, .invokevirtual 0, [2, 2, 4]), (99, .invokevirtual 0, [3, 3, 4]), (102, .iinc 2 1, []), (105, .goto 0, [3])] := rfl
theorem pg_Forest_measure_4 : zprog 44 4 = [(108, .return_, [])] := rfl
theorem pg_Forest_joinedWeight_0 : zprog 45 0 = [(0, .iconst 0, []), (1, .istore 1, []), (2, .aload 0, []), (3, .getfield 0, [2, 0]), (6, .invokevirtual 0, [1, 1, 4]), (9, .istore 2, []), (10, .nop, [1])] := rfl
theorem pg_Forest_joinedWeight_1 : zprog 45 1 = [(10, .iload 2, []), (11, .aload 0, []), (12, .getfield 0, [2, 1]), (15, .invokevirtual 0, [1, 1, 4]), (18, .if_icmp .ge 0, [2]), (21, .iload 1, []), (22, .aload 0, []), (23, .getfield 0, [2, 1]), (26, .iload 2, []), (27, .invokevirtual 0, [2, 2, 4]), (30, .iadd, []), (31, .istore 1, []), (32, .iinc 2 1, []), (35, .goto 0, [1])] := rfl
theorem pg_Forest_joinedWeight_2 : zprog 45 2 = [(38, .iload 1, []), (39, .ireturn, [])] := rfl
theorem pg_Coins_init_0 : zprog 46 0 = [(0, .aload 0, []), (1, .invokespecial 0, []), (4, .aload 0, []), (5, .new 0, [4, 0]), (8, .dup, []), (9, .iconst 26, []), (11, .invokespecial 0, [0, 2]), (14, .putfield 0, [1, 0, 2]), (17, .aload 0, []), (18, .new 0, [4, 0]), (21, .dup, []), (22, .iconst 52, []), (24, .invokespecial 0, [0, 2]), (27, .putfield 0, [1, 1, 2]), (30, .aload 0, []), (31, .new 0, [4, 0]), (34, .dup, []), (35, .iconst 52, []), (37, .invokespecial 0, [0, 2]), (40, .putfield 0, [1, 2, 2]), (43, .aload 0, []), (44, .new 0, [4, 0]), (47, .dup, []), (48, .iconst 1300, []), (51, .invokespecial 0, [0, 2]), (54, .putfield 0, [1, 3, 2]), (57, .return_, [])] := rfl
theorem pg_Coins_measure_0 : zprog 47 0 = [(0, .aload 0, []), (1, .getfield 0, [1, 0]), (4, .aload 1, []), (5, .invokevirtual 0, [15, 2, 4]), (8, .aload 0, []), (9, .getfield 0, [1, 2]), (12, .invokevirtual 0, [7, 1, 4]), (15, .aload 0, []), (16, .getfield 0, [1, 3]), (19, .iload 2, []), (20, .iconst 52, []), (22, .imul, []), (23, .iconst 0, []), (24, .invokevirtual 0, [8, 3, 4]), (27, .iconst 0, []), (28, .istore 4, []), (30, .nop, [1])] := rfl
theorem pg_Coins_measure_1 : zprog 47 1 = [(30, .iload 4, []), (32, .iload 2, []), (33, .if_icmp .ge 0, [2]), (36, .aload 0, []), (37, .getfield 0, [1, 1]), (40, .aload 0, []), (41, .getfield 0, [1, 2]), (44, .invokevirtual 0, [9, 2, 4]), (47, .aload 0, []), (48, .aload 1, []), (49, .iload 4, []), (51, .invokevirtual 0, [49, 3, 1]), (54, .iinc 4 1, []), (57, .goto 0, [1])] := rfl
theorem pg_Coins_measure_2 : zprog 47 2 = [(60, .aload 3, []), (61, .iconst 26, []), (63, .iconst (-1), []), (64, .invokevirtual 0, [8, 3, 4]), (67, .iconst 0, []), (68, .istore 4, []), (70, .nop, [3])] := rfl
theorem pg_Coins_measure_3 : zprog 47 3 = [(70, .iload 4, []), (72, .aload 0, []), (73, .getfield 0, [1, 0]), (76, .invokevirtual 0, [1, 1, 4]), (79, .if_icmp .ge 0, [4]), (82, .aload 3, []), (83, .aload 0, []), (84, .getfield 0, [1, 0]), (87, .iload 4, []), (89, .invokevirtual 0, [2, 2, 4]), (92, .iconst 0, []), (93, .invokevirtual 0, [3, 3, 4]), (96, .iinc 4 1, []), (99, .goto 0, [3])] := rfl
theorem pg_Coins_measure_4 : zprog 47 4 = [(102, .aload 0, []), (103, .iload 2, []), (104, .aload 3, []), (105, .invokevirtual 0, [50, 3, 1]), (108, .return_, [])] := rfl
theorem pg_Coins_packageWeight_0 : zprog 48 0 = [(0, .aload 0, []), (1, .getfield 0, [1, 1]), (4, .iconst 2, []), (5, .iload 1, []), (6, .imul, []), (7, .invokevirtual 0, [2, 2, 4]), (10, .aload 0, []), (11, .getfield 0, [1, 1]), (14, .iconst 2, []), (15, .iload 1, []), (16, .imul, []), (17, .iconst 1, []), (18, .iadd, []), (19, .invokevirtual 0, [2, 2, 4]), (22, .iadd, []), (23, .ireturn, [])] := rfl
theorem pg_Coins_layRow_0 : zprog 49 0 = [(0, .aload 0, []), (1, .getfield 0, [1, 2]), (4, .invokevirtual 0, [7, 1, 4]), (7, .aload 0, []), (8, .getfield 0, [1, 1]), (11, .invokevirtual 0, [1, 1, 4]), (14, .iconst 2, []), (15, .idiv, []), (16, .istore 3, []), (17, .iconst 0, []), (18, .istore 4, []), (20, .iconst 0, []), (21, .istore 5, []), (23, .nop, [1])] := rfl
theorem pg_Coins_layRow_1 : zprog 49 1 = [(23, .iload 4, []), (25, .aload 0, []), (26, .getfield 0, [1, 0]), (29, .invokevirtual 0, [1, 1, 4]), (32, .if_icmp .lt 0, [2]), (35, .iload 5, []), (37, .iload 3, []), (38, .if_icmp .ge 0, [6]), (41, .nop, [2])] := rfl
theorem pg_Coins_layRow_2 : zprog 49 2 = [(41, .aload 1, []), (42, .aload 0, []), (43, .getfield 0, [1, 0]), (46, .iload 4, []), (48, .invokevirtual 0, [2, 2, 4]), (51, .invokevirtual 0, [2, 2, 4]), (54, .istore 6, []), (56, .iload 5, []), (58, .iload 3, []), (59, .if_icmp .ge 0, [3]), (62, .iload 4, []), (64, .aload 0, []), (65, .getfield 0, [1, 0]), (68, .invokevirtual 0, [1, 1, 4]), (71, .if_icmp .ge 0, [4]), (74, .iload 6, []), (76, .aload 0, []), (77, .iload 5, []), (79, .invokevirtual 0, [48, 2, 1]), (82, .if_icmp .gt 0, [4]), (85, .nop, [3])] := rfl
theorem pg_Coins_layRow_3 : zprog 49 3 = [(85, .aload 0, []), (86, .getfield 0, [1, 2]), (89, .iload 6, []), (91, .invokevirtual 0, [4, 2, 4]), (94, .iinc 4 1, []), (97, .goto 0, [5])] := rfl
theorem pg_Coins_layRow_4 : zprog 49 4 = [(100, .aload 0, []), (101, .getfield 0, [1, 2]), (104, .aload 0, []), (105, .iload 5, []), (107, .invokevirtual 0, [48, 2, 1]), (110, .invokevirtual 0, [4, 2, 4]), (113, .iinc 5 1, []), (116, .nop, [5])] := rfl
theorem pg_Coins_layRow_5 : zprog 49 5 = [(116, .aload 0, []), (117, .getfield 0, [1, 3]), (120, .iload 2, []), (121, .iconst 52, []), (123, .imul, []), (124, .aload 0, []), (125, .getfield 0, [1, 2]), (128, .invokevirtual 0, [1, 1, 4]), (131, .iadd, []), (132, .iload 4, []), (134, .invokevirtual 0, [3, 3, 4]), (137, .goto 0, [1])] := rfl
theorem pg_Coins_layRow_6 : zprog 49 6 = [(140, .return_, [])] := rfl
theorem pg_Coins_countTaken_0 : zprog 50 0 = [(0, .iconst 2, []), (1, .aload 0, []), (2, .getfield 0, [1, 0]), (5, .invokevirtual 0, [1, 1, 4]), (8, .imul, []), (9, .iconst 2, []), (10, .isub, []), (11, .istore 3, []), (12, .iload 1, []), (13, .iconst 1, []), (14, .isub, []), (15, .istore 4, []), (17, .nop, [1])] := rfl
theorem pg_Coins_countTaken_1 : zprog 50 1 = [(17, .iload 4, []), (19, .ifCond .lt 0, [4]), (22, .iload 3, []), (23, .ifCond .le 0, [4]), (26, .aload 0, []), (27, .getfield 0, [1, 3]), (30, .iload 4, []), (32, .iconst 52, []), (34, .imul, []), (35, .iload 3, []), (36, .iadd, []), (37, .invokevirtual 0, [2, 2, 4]), (40, .istore 5, []), (42, .iconst 0, []), (43, .istore 6, []), (45, .nop, [2])] := rfl
theorem pg_Coins_countTaken_2 : zprog 50 2 = [(45, .iload 6, []), (47, .iload 5, []), (49, .if_icmp .ge 0, [3]), (52, .aload 0, []), (53, .getfield 0, [1, 0]), (56, .iload 6, []), (58, .invokevirtual 0, [2, 2, 4]), (61, .istore 7, []), (63, .aload 2, []), (64, .iload 7, []), (66, .aload 2, []), (67, .iload 7, []), (69, .invokevirtual 0, [2, 2, 4]), (72, .iconst 1, []), (73, .iadd, []), (74, .invokevirtual 0, [3, 3, 4]), (77, .iinc 6 1, []), (80, .goto 0, [2])] := rfl
theorem pg_Coins_countTaken_3 : zprog 50 3 = [(83, .iconst 2, []), (84, .iload 3, []), (85, .iload 5, []), (87, .isub, []), (88, .imul, []), (89, .istore 3, []), (90, .iinc 4 (-1), []), (93, .goto 0, [1])] := rfl
theorem pg_Coins_countTaken_4 : zprog 50 4 = [(96, .return_, [])] := rfl
theorem pg_Growing_init_0 : zprog 51 0 = [(0, .aload 0, []), (1, .invokespecial 0, []), (4, .aload 0, []), (5, .new 0, [4, 0]), (8, .dup, []), (9, .iconst 27, []), (11, .invokespecial 0, [0, 2]), (14, .putfield 0, [3, 0, 2]), (17, .aload 0, []), (18, .new 0, [0, 0]), (21, .dup, []), (22, .iconst 104, []), (24, .iconst 27, []), (26, .invokespecial 0, [16, 3]), (29, .putfield 0, [3, 1, 2]), (32, .aload 0, []), (33, .new 0, [2, 0]), (36, .dup, []), (37, .invokespecial 0, [36, 1]), (40, .putfield 0, [3, 2, 2]), (43, .return_, [])] := rfl
theorem pg_Growing_lay_0 : zprog 52 0 = [(0, .aload 2, []), (1, .invokevirtual 0, [7, 1, 4]), (4, .aload 0, []), (5, .invokevirtual 0, [54, 1, 3]), (8, .iconst 0, []), (9, .istore 3, []), (10, .nop, [1])] := rfl
theorem pg_Growing_lay_1 : zprog 52 1 = [(10, .iload 3, []), (11, .aload 1, []), (12, .invokevirtual 0, [1, 1, 4]), (15, .if_icmp .ge 0, [4]), (18, .aload 0, []), (19, .invokevirtual 0, [55, 1, 3]), (22, .aload 1, []), (23, .iload 3, []), (24, .invokevirtual 0, [2, 2, 4]), (27, .istore 4, []), (29, .aload 0, []), (30, .getfield 0, [3, 0]), (33, .iload 4, []), (35, .invokevirtual 0, [2, 2, 4]), (38, .ifCond .le 0, [2]), (41, .aload 0, []), (42, .getfield 0, [3, 1]), (45, .iload 4, []), (47, .aload 2, []), (48, .invokevirtual 0, [32, 3, 0]), (51, .goto 0, [3])] := rfl
theorem pg_Growing_lay_2 : zprog 52 2 = [(54, .aload 0, []), (55, .getfield 0, [3, 1]), (58, .iconst 26, []), (60, .aload 2, []), (61, .invokevirtual 0, [32, 3, 0]), (64, .iload 4, []), (66, .aload 2, []), (67, .invokestatic 0, [56, 2]), (70, .nop, [3])] := rfl
theorem pg_Growing_lay_3 : zprog 52 3 = [(70, .aload 0, []), (71, .iload 4, []), (73, .invokevirtual 0, [57, 2, 3]), (76, .iinc 3 1, []), (79, .goto 0, [1])] := rfl
theorem pg_Growing_lay_4 : zprog 52 4 = [(82, .return_, [])] := rfl
theorem pg_Growing_gather_0 : zprog 53 0 = [(0, .aload 3, []), (1, .invokevirtual 0, [7, 1, 4]), (4, .aload 0, []), (5, .invokevirtual 0, [54, 1, 3]), (8, .iconst 0, []), (9, .istore 4, []), (11, .iconst 0, []), (12, .istore 5, []), (14, .nop, [1])] := rfl
theorem pg_Growing_gather_1 : zprog 53 1 = [(14, .iload 5, []), (16, .iload 2, []), (17, .if_icmp .ge 0, [5]), (20, .aload 0, []), (21, .invokevirtual 0, [55, 1, 3]), (24, .aload 0, []), (25, .getfield 0, [3, 1]), (28, .aload 1, []), (29, .iload 4, []), (31, .iconst (-1), []), (32, .invokevirtual 0, [33, 4, 0]), (35, .istore 6, []), (37, .iload 6, []), (39, .ifCond .ge 0, [2]), (42, .return_, [])] := rfl
theorem pg_Growing_gather_2 : zprog 53 2 = [(43, .iload 4, []), (45, .aload 0, []), (46, .getfield 0, [3, 1]), (49, .getfield 0, [0, 1]), (52, .iload 6, []), (54, .invokevirtual 0, [2, 2, 4]), (57, .iadd, []), (58, .istore 4, []), (60, .iload 6, []), (62, .iconst 26, []), (64, .if_icmp .ne 0, [4]), (67, .aload 1, []), (68, .iload 4, []), (70, .iconst 5, []), (71, .invokestatic 0, [140, 3]), (74, .istore 6, []), (76, .iinc 4 5, []), (79, .iload 4, []), (81, .aload 1, []), (82, .invokevirtual 0, [1, 1, 4]), (85, .if_icmp .gt 0, [3]), (88, .iload 6, []), (90, .iconst 26, []), (92, .if_icmp .lt 0, [4]), (95, .nop, [3])] := rfl
theorem pg_Growing_gather_3 : zprog 53 3 = [(95, .return_, [])] := rfl
theorem pg_Growing_gather_4 : zprog 53 4 = [(96, .aload 3, []), (97, .iload 6, []), (99, .invokevirtual 0, [4, 2, 4]), (102, .aload 0, []), (103, .iload 6, []), (105, .invokevirtual 0, [57, 2, 3]), (108, .iinc 5 1, []), (111, .goto 0, [1])] := rfl
theorem pg_Growing_gather_5 : zprog 53 5 = [(114, .return_, [])] := rfl
theorem pg_Growing_start_0 : zprog 54 0 = [(0, .aload 0, []), (1, .getfield 0, [3, 0]), (4, .iconst 27, []), (6, .iconst 0, []), (7, .invokevirtual 0, [8, 3, 4]), (10, .aload 0, []), (11, .getfield 0, [3, 0]), (14, .iconst 26, []), (16, .iconst 1, []), (17, .invokevirtual 0, [3, 3, 4]), (20, .return_, [])] := rfl
theorem pg_Growing_makeCode_0 : zprog 55 0 = [(0, .aload 0, []), (1, .getfield 0, [3, 2]), (4, .aload 0, []), (5, .getfield 0, [3, 0]), (8, .iconst 0, []), (9, .invokevirtual 0, [37, 3, 2]), (12, .aload 0, []), (13, .getfield 0, [3, 2]), (16, .aload 0, []), (17, .getfield 0, [3, 1]), (20, .getfield 0, [0, 1]), (23, .invokevirtual 0, [44, 2, 2]), (26, .aload 0, []), (27, .getfield 0, [3, 1]), (30, .invokevirtual 0, [23, 1, 0]), (33, .return_, [])] := rfl
theorem pg_Growing_layNumber_0 : zprog 56 0 = [(0, .iconst 4, []), (1, .istore 2, []), (2, .nop, [1])] := rfl
theorem pg_Growing_layNumber_1 : zprog 56 1 = [(2, .iload 2, []), (3, .ifCond .lt 0, [2]), (6, .aload 1, []), (7, .iload 0, []), (8, .iload 2, []), (9, .ishr, []), (10, .iconst 1, []), (11, .iand, []), (12, .invokevirtual 0, [4, 2, 4]), (15, .iinc 2 (-1), []), (18, .goto 0, [1])] := rfl
theorem pg_Growing_layNumber_2 : zprog 56 2 = [(21, .return_, [])] := rfl
theorem pg_Growing_grow_0 : zprog 57 0 = [(0, .aload 0, []), (1, .getfield 0, [3, 0]), (4, .iload 1, []), (5, .aload 0, []), (6, .getfield 0, [3, 0]), (9, .iload 1, []), (10, .invokevirtual 0, [2, 2, 4]), (13, .iconst 1, []), (14, .iadd, []), (15, .invokevirtual 0, [3, 3, 4]), (18, .aload 0, []), (19, .getfield 0, [3, 0]), (22, .invokevirtual 0, [13, 1, 4]), (25, .iconst 40, []), (27, .if_icmp .le 0, [2]), (30, .iconst 0, []), (31, .istore 2, []), (32, .nop, [1])] := rfl
theorem pg_Growing_grow_1 : zprog 57 1 = [(32, .iload 2, []), (33, .aload 0, []), (34, .getfield 0, [3, 0]), (37, .invokevirtual 0, [1, 1, 4]), (40, .if_icmp .ge 0, [2]), (43, .aload 0, []), (44, .getfield 0, [3, 0]), (47, .iload 2, []), (48, .aload 0, []), (49, .getfield 0, [3, 0]), (52, .iload 2, []), (53, .invokevirtual 0, [2, 2, 4]), (56, .iconst 1, []), (57, .iadd, []), (58, .iconst 2, []), (59, .idiv, []), (60, .invokevirtual 0, [3, 3, 4]), (63, .iinc 2 1, []), (66, .goto 0, [1])] := rfl
theorem pg_Growing_grow_2 : zprog 57 2 = [(69, .return_, [])] := rfl
theorem pg_Sh_init_0 : zprog 58 0 = [(0, .aload 0, []), (1, .invokespecial 0, []), (4, .aload 0, []), (5, .new 0, [4, 0]), (8, .dup, []), (9, .iconst 120, []), (11, .invokespecial 0, [0, 2]), (14, .putfield 0, [5, 0, 2]), (17, .aload 0, []), (18, .new 0, [4, 0]), (21, .dup, []), (22, .iconst 26, []), (24, .invokespecial 0, [0, 2]), (27, .putfield 0, [5, 1, 2]), (30, .aload 0, []), (31, .new 0, [7, 0]), (34, .dup, []), (35, .invokespecial 0, [246, 1]), (38, .putfield 0, [5, 2, 2]), (41, .aload 0, []), (42, .new 0, [4, 0]), (45, .dup, []), (46, .iconst 3000, []), (49, .invokespecial 0, [0, 2]), (52, .putfield 0, [5, 3, 2]), (55, .aload 0, []), (56, .iconst 0, []), (57, .putfield 0, [5, 4, 0]), (60, .aload 0, []), (61, .new 0, [2, 0]), (64, .dup, []), (65, .invokespecial 0, [36, 1]), (68, .putfield 0, [5, 5, 2]), (71, .aload 0, []), (72, .new 0, [1, 0]), (75, .dup, []), (76, .invokespecial 0, [46, 1]), (79, .putfield 0, [5, 6, 2]), (82, .aload 0, []), (83, .new 0, [3, 0]), (86, .dup, []), (87, .invokespecial 0, [51, 1]), (90, .putfield 0, [5, 7, 2]), (93, .aload 0, []), (94, .new 0, [4, 0]), (97, .dup, []), (98, .iconst 8, []), (100, .invokespecial 0, [0, 2]), (103, .putfield 0, [5, 8, 2]), (106, .aload 0, []), (107, .new 0, [4, 0]), (110, .dup, []), (111, .iconst 26, []), (113, .invokespecial 0, [0, 2]), (116, .putfield 0, [5, 9, 2]), (119, .aload 0, []), (120, .new 0, [4, 0]), (123, .dup, []), (124, .iconst 26, []), (126, .invokespecial 0, [0, 2]), (129, .putfield 0, [5, 10, 2]), (132, .aload 0, []), (133, .new 0, [4, 0]), (136, .dup, []), (137, .iconst 26, []), (139, .invokespecial 0, [0, 2]), (142, .putfield 0, [5, 11, 2]), (145, .aload 0, []), (146, .new 0, [4, 0]), (149, .dup, []), (150, .iconst 120, []), (152, .invokespecial 0, [0, 2]), (155, .putfield 0, [5, 12, 2]), (158, .aload 0, []), (159, .new 0, [4, 0]), (162, .dup, []), (163, .iconst 120, []), (165, .invokespecial 0, [0, 2]), (168, .putfield 0, [5, 13, 2]), (171, .aload 0, []), (172, .new 0, [4, 0]), (175, .dup, []), (176, .iconst 240, []), (179, .invokespecial 0, [0, 2]), (182, .putfield 0, [5, 14, 2]), (185, .aload 0, []), (186, .new 0, [4, 0]), (189, .dup, []), (190, .iconst 120, []), (192, .invokespecial 0, [0, 2]), (195, .putfield 0, [5, 15, 2]), (198, .aload 0, []), (199, .new 0, [4, 0]), (202, .dup, []), (203, .iconst 3000, []), (206, .invokespecial 0, [0, 2]), (209, .putfield 0, [5, 16, 2]), (212, .aload 0, []), (213, .getfield 0, [5, 1]), (216, .iconst 26, []), (218, .iconst 0, []), (219, .invokevirtual 0, [8, 3, 4]), (222, .aload 0, []), (223, .getfield 0, [5, 10]), (226, .iconst 26, []), (228, .iconst (-1), []), (229, .invokevirtual 0, [8, 3, 4]), (232, .return_, [])] := rfl
theorem pg_Sh_type_0 : zprog 59 0 = [(0, .iload 1, []), (1, .invokestatic 0, [111, 1]), (4, .istore 2, []), (5, .aload 0, []), (6, .iconst 1, []), (7, .invokevirtual 0, [113, 2, 5]), (10, .aload 0, []), (11, .getfield 0, [5, 0]), (14, .iload 2, []), (15, .invokevirtual 0, [4, 2, 4]), (18, .aload 0, []), (19, .getfield 0, [5, 0]), (22, .invokevirtual 0, [1, 1, 4]), (25, .ireturn, [])] := rfl
theorem pg_Sh_typeMore_0 : zprog 60 0 = [(0, .iload 1, []), (1, .iconst 1, []), (2, .if_icmp .lt 0, [1]), (5, .iload 1, []), (6, .iconst 8, []), (8, .if_icmp .le 0, [2]), (11, .nop, [1])] := rfl
theorem pg_Sh_typeMore_1 : zprog 60 1 = [(11, .new 0, [8, 1])] := rfl
theorem pg_Sh_typeMore_2 : zprog 60 2 = [(21, .aload 0, []), (22, .getfield 0, [5, 8]), (25, .invokevirtual 0, [7, 1, 4]), (28, .aload 0, []), (29, .getfield 0, [5, 8]), (32, .iload 2, []), (33, .invokevirtual 0, [4, 2, 4]), (36, .aload 0, []), (37, .getfield 0, [5, 8]), (40, .iload 3, []), (41, .invokevirtual 0, [4, 2, 4]), (44, .aload 0, []), (45, .getfield 0, [5, 8]), (48, .iload 4, []), (50, .invokevirtual 0, [4, 2, 4]), (53, .aload 0, []), (54, .getfield 0, [5, 8]), (57, .iload 5, []), (59, .invokevirtual 0, [4, 2, 4]), (62, .aload 0, []), (63, .getfield 0, [5, 8]), (66, .iload 6, []), (68, .invokevirtual 0, [4, 2, 4]), (71, .aload 0, []), (72, .getfield 0, [5, 8]), (75, .iload 7, []), (77, .invokevirtual 0, [4, 2, 4]), (80, .aload 0, []), (81, .getfield 0, [5, 8]), (84, .iload 8, []), (86, .invokevirtual 0, [4, 2, 4]), (89, .aload 0, []), (90, .getfield 0, [5, 8]), (93, .iload 9, []), (95, .invokevirtual 0, [4, 2, 4]), (98, .iconst 0, []), (99, .istore 10, []), (101, .nop, [3])] := rfl
theorem pg_Sh_typeMore_3 : zprog 60 3 = [(101, .iload 10, []), (103, .iload 1, []), (104, .if_icmp .ge 0, [4]), (107, .aload 0, []), (108, .getfield 0, [5, 8]), (111, .iload 10, []), (113, .aload 0, []), (114, .getfield 0, [5, 8]), (117, .iload 10, []), (119, .invokevirtual 0, [2, 2, 4]), (122, .i2c, []), (123, .invokestatic 0, [111, 1]), (126, .invokevirtual 0, [3, 3, 4]), (129, .iinc 10 1, []), (132, .goto 0, [3])] := rfl
theorem pg_Sh_typeMore_4 : zprog 60 4 = [(135, .aload 0, []), (136, .iload 1, []), (137, .invokevirtual 0, [113, 2, 5]), (140, .iconst 0, []), (141, .istore 10, []), (143, .nop, [5])] := rfl
theorem pg_Sh_typeMore_5 : zprog 60 5 = [(143, .iload 10, []), (145, .iload 1, []), (146, .if_icmp .ge 0, [6]), (149, .aload 0, []), (150, .getfield 0, [5, 0]), (153, .aload 0, []), (154, .getfield 0, [5, 8]), (157, .iload 10, []), (159, .invokevirtual 0, [2, 2, 4]), (162, .invokevirtual 0, [4, 2, 4]), (165, .iinc 10 1, []), (168, .goto 0, [5])] := rfl
theorem pg_Sh_typeMore_6 : zprog 60 6 = [(171, .aload 0, []), (172, .getfield 0, [5, 0]), (175, .invokevirtual 0, [1, 1, 4]), (178, .ireturn, [])] := rfl
theorem pg_Sh_wipe_0 : zprog 61 0 = [(0, .aload 0, []), (1, .getfield 0, [5, 0]), (4, .invokevirtual 0, [1, 1, 4]), (7, .istore 1, []), (8, .aload 0, []), (9, .getfield 0, [5, 0]), (12, .invokevirtual 0, [7, 1, 4]), (15, .iload 1, []), (16, .ireturn, [])] := rfl
theorem pg_Sh_length_0 : zprog 62 0 = [(0, .aload 0, []), (1, .getfield 0, [5, 0]), (4, .invokevirtual 0, [1, 1, 4]), (7, .ireturn, [])] := rfl
theorem pg_Sh_typed_0 : zprog 63 0 = [(0, .iload 1, []), (1, .ifCond .lt 0, [1]), (4, .iload 1, []), (5, .aload 0, []), (6, .getfield 0, [5, 0]), (9, .invokevirtual 0, [1, 1, 4]), (12, .if_icmp .lt 0, [2]), (15, .nop, [1])] := rfl
theorem pg_Sh_typed_1 : zprog 63 1 = [(15, .new 0, [10, 1])] := rfl
theorem pg_Sh_typed_2 : zprog 63 2 = [(25, .aload 0, []), (26, .getfield 0, [5, 0]), (29, .iload 1, []), (30, .invokevirtual 0, [2, 2, 4]), (33, .invokestatic 0, [112, 1]), (36, .ireturn, [1])] := rfl
theorem pg_Sh_set_0 : zprog 64 0 = [(0, .iload 1, []), (1, .invokestatic 0, [111, 1]), (4, .istore 3, []), (5, .iload 2, []), (6, .ifCond .lt 0, [1]), (9, .iload 2, []), (10, .iconst 9999, []), (13, .if_icmp .le 0, [2]), (16, .nop, [1])] := rfl
theorem pg_Sh_set_1 : zprog 64 1 = [(16, .new 0, [8, 1])] := rfl
theorem pg_Sh_set_2 : zprog 64 2 = [(26, .aload 0, []), (27, .getfield 0, [5, 1]), (30, .iload 3, []), (31, .invokevirtual 0, [2, 2, 4]), (34, .istore 4, []), (36, .aload 0, []), (37, .getfield 0, [5, 1]), (40, .iload 3, []), (41, .iload 2, []), (42, .invokevirtual 0, [3, 3, 4]), (45, .iload 4, []), (47, .ireturn, [])] := rfl
theorem pg_Sh_count_0 : zprog 65 0 = [(0, .aload 0, []), (1, .getfield 0, [5, 1]), (4, .iload 1, []), (5, .invokestatic 0, [111, 1]), (8, .invokevirtual 0, [2, 2, 4]), (11, .ireturn, [])] := rfl
theorem pg_Sh_take_0 : zprog 66 0 = [(0, .aload 0, []), (1, .iconst 0, []), (2, .aload 0, []), (3, .getfield 0, [5, 0]), (6, .invokevirtual 0, [1, 1, 4]), (9, .aload 0, []), (10, .getfield 0, [5, 1]), (13, .invokevirtual 0, [125, 4, 5]), (16, .aload 0, []), (17, .invokevirtual 0, [124, 1, 5]), (20, .ireturn, [])] := rfl
theorem pg_Sh_clear_0 : zprog 67 0 = [(0, .aload 0, []), (1, .getfield 0, [5, 1]), (4, .invokevirtual 0, [13, 1, 4]), (7, .istore 1, []), (8, .aload 0, []), (9, .getfield 0, [5, 1]), (12, .iconst 26, []), (14, .iconst 0, []), (15, .invokevirtual 0, [8, 3, 4]), (18, .iload 1, []), (19, .ireturn, [])] := rfl
theorem pg_Sh_least_0 : zprog 68 0 = [(0, .aload 0, []), (1, .invokevirtual 0, [114, 1, 5]), (4, .aload 0, []), (5, .invokevirtual 0, [115, 1, 5]), (8, .aload 0, []), (9, .iconst 0, []), (10, .invokevirtual 0, [126, 2, 5]), (13, .aload 0, []), (14, .iconst 104, []), (16, .invokevirtual 0, [136, 2, 5]), (19, .ireturn, [])] := rfl
theorem pg_Sh_bounded_0 : zprog 69 0 = [(0, .iload 1, []), (1, .invokestatic 0, [116, 1]), (4, .aload 0, []), (5, .invokevirtual 0, [114, 1, 5]), (8, .aload 0, []), (9, .iload 1, []), (10, .invokevirtual 0, [117, 2, 5]), (13, .aload 0, []), (14, .invokevirtual 0, [115, 1, 5]), (17, .aload 0, []), (18, .getfield 0, [5, 6]), (21, .aload 0, []), (22, .getfield 0, [5, 1]), (25, .iload 1, []), (26, .aload 0, []), (27, .getfield 0, [5, 10]), (30, .invokevirtual 0, [47, 4, 1]), (33, .aload 0, []), (34, .iconst 98, []), (36, .invokevirtual 0, [136, 2, 5]), (39, .ireturn, [])] := rfl
theorem pg_Sh_ordered_0 : zprog 70 0 = [(0, .aload 0, []), (1, .invokevirtual 0, [114, 1, 5]), (4, .aload 0, []), (5, .invokevirtual 0, [115, 1, 5]), (8, .aload 0, []), (9, .getfield 0, [5, 5]), (12, .aload 0, []), (13, .getfield 0, [5, 1]), (16, .invokevirtual 0, [40, 2, 2]), (19, .aload 0, []), (20, .getfield 0, [5, 5]), (23, .aload 0, []), (24, .getfield 0, [5, 10]), (27, .invokevirtual 0, [44, 2, 2]), (30, .new 0, [0, 0]), (33, .dup, []), (34, .iconst 111, []), (36, .iconst 26, []), (38, .invokespecial 0, [16, 3]), (41, .astore 1, []), (42, .aload 1, []), (43, .getfield 0, [0, 1]), (46, .aload 0, []), (47, .getfield 0, [5, 10]), (50, .invokevirtual 0, [9, 2, 4]), (53, .aload 1, []), (54, .invokevirtual 0, [24, 1, 0]), (57, .aload 0, []), (58, .aload 1, []), (59, .invokevirtual 0, [137, 2, 5]), (62, .ireturn, [])] := rfl
theorem pg_Sh_triple_0 : zprog 71 0 = [(0, .aload 0, []), (1, .invokevirtual 0, [114, 1, 5]), (4, .aload 0, []), (5, .invokevirtual 0, [115, 1, 5]), (8, .aload 0, []), (9, .iconst 1, []), (10, .invokevirtual 0, [126, 2, 5]), (13, .aload 0, []), (14, .iconst 116, []), (16, .invokevirtual 0, [136, 2, 5]), (19, .ireturn, [])] := rfl
theorem pg_Sh_byLengths_0 : zprog 72 0 = [(0, .aload 0, []), (1, .getfield 0, [5, 0]), (4, .invokevirtual 0, [1, 1, 4]), (7, .iconst 26, []), (9, .if_icmp .le 0, [1]), (12, .new 0, [8, 1])] := rfl
theorem pg_Sh_byLengths_1 : zprog 72 1 = [(22, .aload 0, []), (23, .getfield 0, [5, 10]), (26, .iconst 26, []), (28, .iconst (-1), []), (29, .invokevirtual 0, [8, 3, 4]), (32, .iconst 0, []), (33, .istore 1, []), (34, .nop, [2])] := rfl
theorem pg_Sh_byLengths_2 : zprog 72 2 = [(34, .iload 1, []), (35, .aload 0, []), (36, .getfield 0, [5, 0]), (39, .invokevirtual 0, [1, 1, 4]), (42, .if_icmp .ge 0, [4]), (45, .aload 0, []), (46, .getfield 0, [5, 0]), (49, .iload 1, []), (50, .invokevirtual 0, [2, 2, 4]), (53, .ifCond .le 0, [3]), (56, .aload 0, []), (57, .getfield 0, [5, 10]), (60, .iload 1, []), (61, .aload 0, []), (62, .getfield 0, [5, 0]), (65, .iload 1, []), (66, .invokevirtual 0, [2, 2, 4]), (69, .invokevirtual 0, [3, 3, 4]), (72, .nop, [3])] := rfl
theorem pg_Sh_byLengths_3 : zprog 72 3 = [(72, .iinc 1 1, []), (75, .goto 0, [2])] := rfl
theorem pg_Sh_byLengths_4 : zprog 72 4 = [(78, .new 0, [0, 0]), (81, .dup, []), (82, .iconst 107, []), (84, .iconst 26, []), (86, .invokespecial 0, [16, 3]), (89, .astore 1, []), (90, .aload 1, []), (91, .getfield 0, [0, 1]), (94, .aload 0, []), (95, .getfield 0, [5, 10]), (98, .invokevirtual 0, [9, 2, 4]), (101, .aload 1, []), (102, .invokevirtual 0, [18, 1, 0]), (105, .ifCond .ne 0, [5]), (108, .new 0, [11, 1])] := rfl
theorem pg_Sh_byLengths_5 : zprog 72 5 = [(118, .aload 1, []), (119, .invokevirtual 0, [26, 1, 0]), (122, .ldc2_w 0, [33554432, 0]), (125, .lcmp, []), (126, .ifCond .le 0, [6]), (129, .new 0, [12, 1])] := rfl
theorem pg_Sh_byLengths_6 : zprog 72 6 = [(139, .aload 0, []), (140, .invokevirtual 0, [115, 1, 5]), (143, .aload 1, []), (144, .invokevirtual 0, [23, 1, 0]), (147, .aload 0, []), (148, .aload 1, []), (149, .invokevirtual 0, [137, 2, 5]), (152, .ireturn, [])] := rfl
theorem pg_Sh_forget_0 : zprog 73 0 = [(0, .aload 0, []), (1, .getfield 0, [5, 2]), (4, .invokevirtual 0, [249, 1, 7]), (9, .istore 1, []), (10, .aload 0, []), (11, .getfield 0, [5, 2]), (14, .invokevirtual 0, [254, 1, 7]), (19, .iload 1, []), (20, .ireturn, [])] := rfl
theorem pg_Sh_codes_0 : zprog 74 0 = [(0, .aload 0, []), (1, .getfield 0, [5, 2]), (4, .invokevirtual 0, [249, 1, 7]), (9, .ireturn, [])] := rfl
theorem pg_Sh_kindOf_0 : zprog 75 0 = [(0, .aload 0, []), (1, .iload 1, []), (2, .invokevirtual 0, [120, 2, 5]), (5, .getfield 0, [0, 0]), (8, .ireturn, [1])] := rfl
theorem pg_Sh_signs_0 : zprog 76 0 = [(0, .aload 0, []), (1, .iload 1, []), (2, .invokevirtual 0, [120, 2, 5]), (5, .invokevirtual 0, [18, 1, 0]), (8, .ireturn, [])] := rfl
theorem pg_Sh_signAt_0 : zprog 77 0 = [(0, .aload 0, []), (1, .iload 1, []), (2, .invokevirtual 0, [120, 2, 5]), (5, .astore 3, []), (6, .iload 2, []), (7, .ifCond .lt 0, [1]), (10, .iload 2, []), (11, .aload 3, []), (12, .invokevirtual 0, [18, 1, 0]), (15, .if_icmp .lt 0, [2]), (18, .nop, [1])] := rfl
theorem pg_Sh_signAt_1 : zprog 77 1 = [(18, .new 0, [10, 1])] := rfl
theorem pg_Sh_signAt_2 : zprog 77 2 = [(28, .aload 3, []), (29, .iload 2, []), (30, .invokevirtual 0, [27, 2, 0]), (33, .invokestatic 0, [112, 1]), (36, .ireturn, [1])] := rfl
theorem pg_Sh_wordLength_0 : zprog 78 0 = [(0, .aload 0, []), (1, .iload 1, []), (2, .invokevirtual 0, [120, 2, 5]), (5, .getfield 0, [0, 1]), (8, .iload 2, []), (9, .invokestatic 0, [111, 1]), (12, .invokevirtual 0, [2, 2, 4]), (15, .istore 3, []), (16, .iload 3, []), (17, .ifCond .ge 0, [1]), (20, .new 0, [11, 1])] := rfl
theorem pg_Sh_wordLength_1 : zprog 78 1 = [(30, .iload 3, []), (31, .ireturn, [])] := rfl
theorem pg_Sh_wordBit_0 : zprog 79 0 = [(0, .aload 0, []), (1, .iload 1, []), (2, .invokevirtual 0, [120, 2, 5]), (5, .astore 4, []), (7, .iload 2, []), (8, .invokestatic 0, [111, 1]), (11, .istore 5, []), (13, .iload 3, []), (14, .ifCond .lt 0, [1]), (17, .iload 3, []), (18, .aload 4, []), (20, .getfield 0, [0, 1]), (23, .iload 5, []), (25, .invokevirtual 0, [2, 2, 4]), (28, .if_icmp .lt 0, [2]), (31, .nop, [1])] := rfl
theorem pg_Sh_wordBit_1 : zprog 79 1 = [(31, .new 0, [11, 1])] := rfl
theorem pg_Sh_wordBit_2 : zprog 79 2 = [(41, .iconst 48, []), (43, .aload 4, []), (45, .iload 5, []), (47, .iload 3, []), (48, .invokevirtual 0, [25, 3, 0]), (51, .iadd, []), (52, .i2c, []), (53, .ireturn, [1])] := rfl
theorem pg_Sh_longest_0 : zprog 80 0 = [(0, .aload 0, []), (1, .iload 1, []), (2, .invokevirtual 0, [120, 2, 5]), (5, .invokevirtual 0, [19, 1, 0]), (8, .ireturn, [])] := rfl
theorem pg_Sh_bits_0 : zprog 81 0 = [(0, .aload 0, []), (1, .iload 1, []), (2, .invokevirtual 0, [120, 2, 5]), (5, .astore 2, []), (6, .aload 0, []), (7, .aload 2, []), (8, .invokevirtual 0, [123, 2, 5]), (11, .aload 0, []), (12, .aload 2, []), (13, .getfield 0, [0, 1]), (16, .invokevirtual 0, [128, 2, 5]), (19, .ireturn, [])] := rfl
theorem pg_Sh_sum_0 : zprog 82 0 = [(0, .aload 0, []), (1, .iload 1, []), (2, .invokevirtual 0, [120, 2, 5]), (5, .invokevirtual 0, [26, 1, 0]), (8, .lreturn, [])] := rfl
theorem pg_Sh_lookup_0 : zprog 83 0 = [(0, .aload 0, []), (1, .iload 1, []), (2, .invokevirtual 0, [120, 2, 5]), (5, .astore 4, []), (7, .iload 2, []), (8, .iconst 1, []), (9, .if_icmp .lt 0, [1]), (12, .iload 2, []), (13, .iconst 8, []), (15, .if_icmp .le 0, [2]), (18, .nop, [1])] := rfl
theorem pg_Sh_lookup_1 : zprog 83 1 = [(18, .new 0, [8, 1])] := rfl
theorem pg_Sh_lookup_2 : zprog 83 2 = [(28, .iload 3, []), (29, .ifCond .lt 0, [3]), (32, .iload 3, []), (33, .iconst 1, []), (34, .iload 2, []), (35, .ishl, []), (36, .if_icmp .lt 0, [4]), (39, .nop, [3])] := rfl
theorem pg_Sh_lookup_3 : zprog 83 3 = [(39, .new 0, [8, 1])] := rfl
theorem pg_Sh_lookup_4 : zprog 83 4 = [(49, .aload 4, []), (51, .invokestatic 0, [121, 1]), (54, .aload 4, []), (56, .iload 3, []), (57, .iload 2, []), (58, .invokevirtual 0, [30, 3, 0]), (61, .istore 5, []), (63, .iload 5, []), (65, .ifCond .lt 0, [5]), (68, .iload 5, []), (70, .ireturn, [])] := rfl
theorem pg_Sh_lookup_5 : zprog 83 5 = [(71, .aload 4, []), (73, .iload 3, []), (74, .iload 2, []), (75, .invokevirtual 0, [31, 3, 0]), (78, .ifCond .eq 0, [6]), (81, .iconst (-1), []), (82, .goto 0, [7])] := rfl
theorem pg_Sh_lookup_6 : zprog 83 6 = [(85, .iconst (-2), []), (87, .nop, [7])] := rfl
theorem pg_Sh_lookup_7 : zprog 83 7 = [(87, .ireturn, [])] := rfl
theorem pg_Sh_leastBits_0 : zprog 84 0 = [(0, .aload 0, []), (1, .getfield 0, [5, 5]), (4, .aload 0, []), (5, .getfield 0, [5, 1]), (8, .iconst 0, []), (9, .invokevirtual 0, [37, 3, 2]), (12, .aload 0, []), (13, .getfield 0, [5, 5]), (16, .invokevirtual 0, [45, 1, 2]), (19, .ireturn, [])] := rfl
theorem pg_Sh_boundCost_0 : zprog 85 0 = [(0, .iload 1, []), (1, .invokestatic 0, [116, 1]), (4, .aload 0, []), (5, .iload 1, []), (6, .invokevirtual 0, [117, 2, 5]), (9, .aload 0, []), (10, .iload 1, []), (11, .invokevirtual 0, [129, 2, 5]), (14, .aload 0, []), (15, .invokevirtual 0, [84, 1, 5]), (18, .isub, []), (19, .ireturn, [])] := rfl
theorem pg_Sh_orderCost_0 : zprog 86 0 = [(0, .aload 0, []), (1, .invokevirtual 0, [130, 1, 5]), (4, .aload 0, []), (5, .invokevirtual 0, [84, 1, 5]), (8, .isub, []), (9, .ireturn, [])] := rfl
theorem pg_Sh_blockBits_0 : zprog 87 0 = [(0, .iload 1, []), (1, .iconst 1, []), (2, .if_icmp .lt 0, [1]), (5, .iload 1, []), (6, .iconst 4, []), (7, .if_icmp .le 0, [2]), (10, .nop, [1])] := rfl
theorem pg_Sh_blockBits_1 : zprog 87 1 = [(10, .new 0, [8, 1])] := rfl
theorem pg_Sh_blockBits_2 : zprog 87 2 = [(21, .aload 0, []), (22, .getfield 0, [5, 12]), (25, .invokevirtual 0, [7, 1, 4]), (28, .aload 0, []), (29, .getfield 0, [5, 13]), (32, .invokevirtual 0, [7, 1, 4]), (35, .iconst 0, []), (36, .istore 2, []), (37, .nop, [3])] := rfl
theorem pg_Sh_blockBits_3 : zprog 87 3 = [(37, .iload 2, []), (38, .aload 0, []), (39, .getfield 0, [5, 0]), (42, .invokevirtual 0, [1, 1, 4]), (45, .if_icmp .ge 0, [4]), (48, .aload 0, []), (49, .aload 0, []), (50, .iload 2, []), (51, .iload 1, []), (52, .invokevirtual 0, [133, 3, 5]), (55, .invokevirtual 0, [134, 2, 5]), (58, .iload 2, []), (59, .iload 1, []), (60, .iadd, []), (61, .istore 2, []), (62, .goto 0, [3])] := rfl
theorem pg_Sh_blockBits_4 : zprog 87 4 = [(65, .aload 0, []), (66, .getfield 0, [5, 5]), (69, .aload 0, []), (70, .getfield 0, [5, 13]), (73, .iconst 0, []), (74, .invokevirtual 0, [37, 3, 2]), (77, .aload 0, []), (78, .getfield 0, [5, 5]), (81, .invokevirtual 0, [45, 1, 2]), (84, .ireturn, [])] := rfl
theorem pg_Sh_fewestFor_0 : zprog 88 0 = [(0, .iload 1, []), (1, .invokestatic 0, [118, 1]), (4, .iconst 0, []), (5, .istore 2, []), (6, .iconst 0, []), (7, .istore 3, []), (8, .nop, [1])] := rfl
theorem pg_Sh_fewestFor_1 : zprog 88 1 = [(8, .iload 3, []), (9, .iload 1, []), (10, .if_icmp .gt 0, [2]), (13, .iload 2, []), (14, .iload 3, []), (15, .invokestatic 0, [135, 1]), (18, .iadd, []), (19, .istore 2, []), (20, .iinc 3 1, []), (23, .goto 0, [1])] := rfl
theorem pg_Sh_fewestFor_2 : zprog 88 2 = [(26, .iload 2, []), (27, .ireturn, [])] := rfl
theorem pg_Sh_countFor_0 : zprog 89 0 = [(0, .iload 1, []), (1, .invokestatic 0, [118, 1]), (4, .iload 2, []), (5, .ifCond .lt 0, [1]), (8, .iload 2, []), (9, .iload 1, []), (10, .if_icmp .le 0, [2]), (13, .nop, [1])] := rfl
theorem pg_Sh_countFor_1 : zprog 89 1 = [(13, .new 0, [10, 1])] := rfl
theorem pg_Sh_countFor_2 : zprog 89 2 = [(24, .iload 2, []), (25, .invokestatic 0, [135, 1]), (28, .ireturn, [])] := rfl
theorem pg_Sh_saved_0 : zprog 90 0 = [(0, .iload 1, []), (1, .ifCond .lt 0, [1]), (4, .iload 1, []), (5, .aload 0, []), (6, .getfield 0, [5, 0]), (9, .invokevirtual 0, [1, 1, 4]), (12, .if_icmp .le 0, [2]), (15, .nop, [1])] := rfl
theorem pg_Sh_saved_1 : zprog 90 1 = [(15, .new 0, [10, 1])] := rfl
theorem pg_Sh_saved_2 : zprog 90 2 = [(26, .aload 0, []), (27, .iconst 0, []), (28, .aload 0, []), (29, .getfield 0, [5, 0]), (32, .invokevirtual 0, [1, 1, 4]), (35, .invokevirtual 0, [131, 3, 5]), (38, .aload 0, []), (39, .iload 1, []), (40, .invokevirtual 0, [132, 2, 5]), (43, .isub, []), (44, .ireturn, [])] := rfl
theorem pg_Sh_bestCut_0 : zprog 91 0 = [(0, .iconst 0, []), (1, .istore 1, []), (2, .aload 0, []), (3, .iconst 0, []), (4, .invokevirtual 0, [132, 2, 5]), (7, .istore 2, []), (8, .iconst 1, []), (9, .istore 3, []), (10, .nop, [1])] := rfl
theorem pg_Sh_bestCut_1 : zprog 91 1 = [(10, .iload 3, []), (11, .aload 0, []), (12, .getfield 0, [5, 0]), (15, .invokevirtual 0, [1, 1, 4]), (18, .if_icmp .gt 0, [3]), (21, .aload 0, []), (22, .iload 3, []), (23, .invokevirtual 0, [132, 2, 5]), (26, .istore 4, []), (28, .iload 4, []), (30, .iload 2, []), (31, .if_icmp .ge 0, [2]), (34, .iload 4, []), (36, .istore 2, []), (37, .iload 3, []), (38, .istore 1, []), (39, .nop, [2])] := rfl
theorem pg_Sh_bestCut_2 : zprog 91 2 = [(39, .iinc 3 1, []), (42, .goto 0, [1])] := rfl
theorem pg_Sh_bestCut_3 : zprog 91 3 = [(45, .iload 1, []), (46, .ireturn, [])] := rfl
theorem pg_Sh_write_0 : zprog 92 0 = [(0, .aload 0, []), (1, .iload 1, []), (2, .invokevirtual 0, [120, 2, 5]), (5, .astore 2, []), (6, .aload 2, []), (7, .invokestatic 0, [121, 1]), (10, .aload 2, []), (11, .aload 0, []), (12, .getfield 0, [5, 0]), (15, .invokevirtual 0, [20, 2, 0]), (18, .ifCond .ne 0, [1]), (21, .new 0, [11, 1])] := rfl
theorem pg_Sh_write_1 : zprog 92 1 = [(32, .aload 0, []), (33, .aload 2, []), (34, .aload 0, []), (35, .getfield 0, [5, 3]), (38, .invokevirtual 0, [138, 3, 5]), (41, .aload 0, []), (42, .aload 0, []), (43, .getfield 0, [5, 0]), (46, .invokevirtual 0, [1, 1, 4]), (49, .putfield 0, [5, 4, 0]), (52, .aload 0, []), (53, .getfield 0, [5, 3]), (56, .invokevirtual 0, [1, 1, 4]), (59, .ireturn, [])] := rfl
theorem pg_Sh_read_0 : zprog 93 0 = [(0, .aload 0, []), (1, .iload 1, []), (2, .invokevirtual 0, [120, 2, 5]), (5, .astore 2, []), (6, .aload 2, []), (7, .invokestatic 0, [121, 1]), (10, .aload 2, []), (11, .aload 0, []), (12, .getfield 0, [5, 3]), (15, .aload 0, []), (16, .getfield 0, [5, 4]), (19, .aload 0, []), (20, .getfield 0, [5, 14]), (23, .invokestatic 0, [139, 4]), (26, .aload 0, []), (27, .getfield 0, [5, 0]), (30, .aload 0, []), (31, .getfield 0, [5, 14]), (34, .invokevirtual 0, [9, 2, 4]), (37, .aload 0, []), (38, .getfield 0, [5, 0]), (41, .invokevirtual 0, [1, 1, 4]), (44, .ireturn, [])] := rfl
theorem pg_Sh_writeGrowing_0 : zprog 94 0 = [(0, .aload 0, []), (1, .getfield 0, [5, 7]), (4, .aload 0, []), (5, .getfield 0, [5, 0]), (8, .aload 0, []), (9, .getfield 0, [5, 3]), (12, .invokevirtual 0, [52, 3, 3]), (15, .aload 0, []), (16, .aload 0, []), (17, .getfield 0, [5, 0]), (20, .invokevirtual 0, [1, 1, 4]), (23, .putfield 0, [5, 4, 0]), (26, .aload 0, []), (27, .getfield 0, [5, 3]), (30, .invokevirtual 0, [1, 1, 4]), (33, .ireturn, [])] := rfl
theorem pg_Sh_readGrowing_0 : zprog 95 0 = [(0, .aload 0, []), (1, .getfield 0, [5, 7]), (4, .aload 0, []), (5, .getfield 0, [5, 3]), (8, .aload 0, []), (9, .getfield 0, [5, 4]), (12, .aload 0, []), (13, .getfield 0, [5, 14]), (16, .invokevirtual 0, [53, 4, 3]), (19, .aload 0, []), (20, .getfield 0, [5, 0]), (23, .aload 0, []), (24, .getfield 0, [5, 14]), (27, .invokevirtual 0, [9, 2, 4]), (30, .aload 0, []), (31, .getfield 0, [5, 0]), (34, .invokevirtual 0, [1, 1, 4]), (37, .ireturn, [])] := rfl
theorem pg_Sh_streamBits_0 : zprog 96 0 = [(0, .aload 0, []), (1, .getfield 0, [5, 3]), (4, .invokevirtual 0, [1, 1, 4]), (7, .ireturn, [])] := rfl
theorem pg_Sh_written_0 : zprog 97 0 = [(0, .aload 0, []), (1, .getfield 0, [5, 4]), (4, .ireturn, [])] := rfl
theorem pg_Sh_bitAt_0 : zprog 98 0 = [(0, .aload 0, []), (1, .iload 1, []), (2, .invokevirtual 0, [119, 2, 5]), (5, .aload 0, []), (6, .getfield 0, [5, 3]), (9, .iload 1, []), (10, .invokevirtual 0, [2, 2, 4]), (13, .ireturn, [])] := rfl
theorem pg_Sh_turn_0 : zprog 99 0 = [(0, .aload 0, []), (1, .iload 1, []), (2, .invokevirtual 0, [119, 2, 5]), (5, .aload 0, []), (6, .getfield 0, [5, 3]), (9, .iload 1, []), (10, .iconst 1, []), (11, .aload 0, []), (12, .getfield 0, [5, 3]), (15, .iload 1, []), (16, .invokevirtual 0, [2, 2, 4]), (19, .isub, []), (20, .invokevirtual 0, [3, 3, 4]), (23, .aload 0, []), (24, .getfield 0, [5, 3]), (27, .iload 1, []), (28, .invokevirtual 0, [2, 2, 4]), (31, .ireturn, [])] := rfl
theorem pg_Sh_byteAt_0 : zprog 100 0 = [(0, .iload 1, []), (1, .ifCond .lt 0, [1]), (4, .iload 1, []), (5, .aload 0, []), (6, .getfield 0, [5, 3]), (9, .invokevirtual 0, [1, 1, 4]), (12, .iconst 8, []), (14, .iadd, []), (15, .iconst 1, []), (16, .isub, []), (17, .iconst 8, []), (19, .idiv, []), (20, .if_icmp .lt 0, [2]), (23, .nop, [1])] := rfl
theorem pg_Sh_byteAt_1 : zprog 100 1 = [(23, .new 0, [10, 1])] := rfl
theorem pg_Sh_byteAt_2 : zprog 100 2 = [(34, .aload 0, []), (35, .getfield 0, [5, 3]), (38, .iload 1, []), (39, .iconst 8, []), (41, .imul, []), (42, .iconst 8, []), (44, .invokestatic 0, [140, 3]), (47, .ireturn, [])] := rfl
theorem pg_Sh_inStep_0 : zprog 101 0 = [(0, .aload 0, []), (1, .iload 1, []), (2, .invokevirtual 0, [120, 2, 5]), (5, .astore 3, []), (6, .aload 0, []), (7, .iload 2, []), (8, .invokevirtual 0, [119, 2, 5]), (11, .aload 3, []), (12, .invokestatic 0, [121, 1]), (15, .aload 3, []), (16, .invokestatic 0, [122, 1]), (19, .aload 0, []), (20, .aload 3, []), (21, .aload 0, []), (22, .aload 3, []), (23, .iconst 0, []), (24, .iload 2, []), (25, .invokevirtual 0, [142, 4, 5]), (28, .iload 2, []), (29, .invokevirtual 0, [143, 4, 5]), (32, .ireturn, [])] := rfl
theorem pg_Sh_lost_0 : zprog 102 0 = [(0, .aload 0, []), (1, .iload 1, []), (2, .invokevirtual 0, [120, 2, 5]), (5, .astore 3, []), (6, .aload 0, []), (7, .iload 2, []), (8, .invokevirtual 0, [119, 2, 5]), (11, .aload 3, []), (12, .invokestatic 0, [121, 1]), (15, .aload 3, []), (16, .invokestatic 0, [122, 1]), (19, .iconst 0, []), (20, .istore 4, []), (22, .iconst 0, []), (23, .istore 5, []), (25, .iload 2, []), (26, .istore 6, []), (28, .nop, [1])] := rfl
theorem pg_Sh_lost_1 : zprog 102 1 = [(28, .iload 6, []), (30, .iload 2, []), (31, .iconst 32, []), (33, .iadd, []), (34, .if_icmp .ge 0, [3]), (37, .iload 6, []), (39, .aload 0, []), (40, .getfield 0, [5, 3]), (43, .invokevirtual 0, [1, 1, 4]), (46, .if_icmp .ge 0, [3]), (49, .aload 0, []), (50, .aload 3, []), (51, .iload 5, []), (53, .iload 6, []), (55, .invokevirtual 0, [142, 4, 5]), (58, .istore 5, []), (60, .aload 0, []), (61, .aload 3, []), (62, .iload 5, []), (64, .iload 6, []), (66, .invokevirtual 0, [143, 4, 5]), (69, .ifCond .ge 0, [2]), (72, .iinc 4 1, []), (75, .nop, [2])] := rfl
theorem pg_Sh_lost_2 : zprog 102 2 = [(75, .iinc 6 1, []), (78, .goto 0, [1])] := rfl
theorem pg_Sh_lost_3 : zprog 102 3 = [(81, .iload 4, []), (83, .ireturn, [])] := rfl
theorem pg_Sh_moves_0 : zprog 103 0 = [(0, .aload 0, []), (1, .aload 0, []), (2, .getfield 0, [5, 0]), (5, .aload 0, []), (6, .getfield 0, [5, 14]), (9, .invokevirtual 0, [146, 3, 5]), (12, .aload 0, []), (13, .getfield 0, [5, 0]), (16, .aload 0, []), (17, .getfield 0, [5, 14]), (20, .invokevirtual 0, [9, 2, 4]), (23, .aload 0, []), (24, .getfield 0, [5, 0]), (27, .iconst 0, []), (28, .invokevirtual 0, [12, 2, 4]), (31, .ireturn, [])] := rfl
theorem pg_Sh_unmoves_0 : zprog 104 0 = [(0, .aload 0, []), (1, .aload 0, []), (2, .getfield 0, [5, 0]), (5, .aload 0, []), (6, .getfield 0, [5, 14]), (9, .invokevirtual 0, [147, 3, 5]), (12, .aload 0, []), (13, .getfield 0, [5, 0]), (16, .aload 0, []), (17, .getfield 0, [5, 14]), (20, .invokevirtual 0, [9, 2, 4]), (23, .iconst 0, []), (24, .istore 1, []), (25, .iconst 0, []), (26, .istore 2, []), (27, .nop, [1])] := rfl
theorem pg_Sh_unmoves_1 : zprog 104 1 = [(27, .iload 2, []), (28, .aload 0, []), (29, .getfield 0, [5, 0]), (32, .invokevirtual 0, [1, 1, 4]), (35, .if_icmp .ge 0, [4]), (38, .iload 2, []), (39, .ifCond .eq 0, [2]), (42, .aload 0, []), (43, .getfield 0, [5, 0]), (46, .iload 2, []), (47, .invokevirtual 0, [2, 2, 4]), (50, .aload 0, []), (51, .getfield 0, [5, 0]), (54, .iload 2, []), (55, .iconst 1, []), (56, .isub, []), (57, .invokevirtual 0, [2, 2, 4]), (60, .if_icmp .eq 0, [3]), (63, .nop, [2])] := rfl
theorem pg_Sh_unmoves_2 : zprog 104 2 = [(63, .iinc 1 1, []), (66, .nop, [3])] := rfl
theorem pg_Sh_unmoves_3 : zprog 104 3 = [(66, .iinc 2 1, []), (69, .goto 0, [1])] := rfl
theorem pg_Sh_unmoves_4 : zprog 104 4 = [(72, .iload 1, []), (73, .ireturn, [])] := rfl
theorem pg_Sh_runs_0 : zprog 105 0 = [(0, .aload 0, []), (1, .aload 0, []), (2, .getfield 0, [5, 14]), (5, .invokevirtual 0, [148, 2, 5]), (8, .aload 0, []), (9, .getfield 0, [5, 14]), (12, .invokevirtual 0, [1, 1, 4]), (15, .iconst 120, []), (17, .if_icmp .le 0, [1]), (20, .new 0, [9, 1])] := rfl
theorem pg_Sh_runs_1 : zprog 105 1 = [(31, .aload 0, []), (32, .getfield 0, [5, 0]), (35, .aload 0, []), (36, .getfield 0, [5, 14]), (39, .invokevirtual 0, [9, 2, 4]), (42, .aload 0, []), (43, .getfield 0, [5, 0]), (46, .invokevirtual 0, [1, 1, 4]), (49, .ireturn, [])] := rfl
theorem pg_Sh_unruns_0 : zprog 106 0 = [(0, .aload 0, []), (1, .getfield 0, [5, 0]), (4, .invokevirtual 0, [1, 1, 4]), (7, .iconst 2, []), (8, .irem, []), (9, .ifCond .eq 0, [1]), (12, .new 0, [12, 1])] := rfl
theorem pg_Sh_unruns_1 : zprog 106 1 = [(23, .iconst 0, []), (24, .istore 1, []), (25, .iconst 1, []), (26, .istore 2, []), (27, .nop, [2])] := rfl
theorem pg_Sh_unruns_2 : zprog 106 2 = [(27, .iload 2, []), (28, .aload 0, []), (29, .getfield 0, [5, 0]), (32, .invokevirtual 0, [1, 1, 4]), (35, .if_icmp .ge 0, [3]), (38, .iload 1, []), (39, .aload 0, []), (40, .getfield 0, [5, 0]), (43, .iload 2, []), (44, .invokevirtual 0, [2, 2, 4]), (47, .iconst 1, []), (48, .iadd, []), (49, .iadd, []), (50, .istore 1, []), (51, .iinc 2 2, []), (54, .goto 0, [2])] := rfl
theorem pg_Sh_unruns_3 : zprog 106 3 = [(57, .iload 1, []), (58, .iconst 120, []), (60, .if_icmp .le 0, [4]), (63, .new 0, [9, 1])] := rfl
theorem pg_Sh_unruns_4 : zprog 106 4 = [(74, .aload 0, []), (75, .aload 0, []), (76, .getfield 0, [5, 14]), (79, .invokevirtual 0, [149, 2, 5]), (82, .aload 0, []), (83, .getfield 0, [5, 0]), (86, .aload 0, []), (87, .getfield 0, [5, 14]), (90, .invokevirtual 0, [9, 2, 4]), (93, .aload 0, []), (94, .getfield 0, [5, 0]), (97, .invokevirtual 0, [1, 1, 4]), (100, .ireturn, [])] := rfl
theorem pg_Sh_meanLength_0 : zprog 107 0 = [(0, .aload 0, []), (1, .iload 1, []), (2, .invokevirtual 0, [120, 2, 5]), (5, .astore 2, []), (6, .aload 0, []), (7, .aload 2, []), (8, .invokevirtual 0, [123, 2, 5]), (11, .aload 0, []), (12, .getfield 0, [5, 1]), (15, .invokevirtual 0, [13, 1, 4]), (18, .istore 3, []), (19, .iload 3, []), (20, .ifCond .ne 0, [1]), (23, .new 0, [13, 1])] := rfl
theorem pg_Sh_meanLength_1 : zprog 107 1 = [(34, .aload 0, []), (35, .aload 2, []), (36, .getfield 0, [0, 1]), (39, .invokevirtual 0, [128, 2, 5]), (42, .i2d, []), (43, .iload 3, []), (44, .i2d, []), (45, .ddiv, []), (46, .dreturn, [])] := rfl
theorem pg_Sh_fullShare_0 : zprog 108 0 = [(0, .iconst 0, []), (1, .istore 1, []), (2, .iconst 0, []), (3, .istore 2, []), (4, .iconst 0, []), (5, .istore 3, []), (6, .nop, [1])] := rfl
theorem pg_Sh_fullShare_1 : zprog 108 1 = [(6, .iload 3, []), (7, .aload 0, []), (8, .getfield 0, [5, 2]), (11, .invokevirtual 0, [249, 1, 7]), (16, .if_icmp .ge 0, [5]), (19, .aload 0, []), (20, .getfield 0, [5, 2]), (23, .iload 3, []), (24, .invokevirtual 0, [251, 2, 7]), (29, .checkcast 0, [0]), (32, .astore 4, []), (34, .aload 4, []), (36, .invokevirtual 0, [17, 1, 0]), (39, .ifCond .ne 0, [4]), (42, .iinc 2 1, []), (45, .iload 1, []), (46, .aload 4, []), (48, .invokevirtual 0, [26, 1, 0]), (51, .ldc2_w 0, [33554432, 0]), (54, .lcmp, []), (55, .ifCond .ne 0, [2]), (58, .iconst 1, []), (59, .goto 0, [3])] := rfl
theorem pg_Sh_fullShare_2 : zprog 108 2 = [(62, .iconst 0, []), (63, .nop, [3])] := rfl
theorem pg_Sh_fullShare_3 : zprog 108 3 = [(63, .iadd, []), (64, .istore 1, []), (65, .nop, [4])] := rfl
theorem pg_Sh_fullShare_4 : zprog 108 4 = [(65, .iinc 3 1, []), (68, .goto 0, [1])] := rfl
theorem pg_Sh_fullShare_5 : zprog 108 5 = [(71, .iload 2, []), (72, .ifCond .ne 0, [6]), (75, .new 0, [13, 1])] := rfl
theorem pg_Sh_fullShare_6 : zprog 108 6 = [(86, .iload 1, []), (87, .i2f, []), (88, .iload 2, []), (89, .i2f, []), (90, .fdiv, []), (91, .freturn, [])] := rfl
theorem pg_Sh_checksum_0 : zprog 109 0 = [(0, .aload 0, []), (1, .getfield 0, [5, 1]), (4, .ldc2_w 0, [7, 0]), (7, .invokevirtual 0, [14, 2, 4]), (10, .lstore 1, []), (11, .aload 0, []), (12, .getfield 0, [5, 0]), (15, .lload 1, []), (16, .invokevirtual 0, [14, 2, 4]), (19, .lstore 1, []), (20, .iconst 0, []), (21, .istore 3, []), (22, .nop, [1])] := rfl
theorem pg_Sh_checksum_1 : zprog 109 1 = [(22, .iload 3, []), (23, .aload 0, []), (24, .getfield 0, [5, 2]), (27, .invokevirtual 0, [249, 1, 7]), (32, .if_icmp .ge 0, [2]), (35, .aload 0, []), (36, .getfield 0, [5, 2]), (39, .iload 3, []), (40, .invokevirtual 0, [251, 2, 7]), (45, .checkcast 0, [0]), (48, .getfield 0, [0, 1]), (51, .lload 1, []), (52, .invokevirtual 0, [14, 2, 4]), (55, .lstore 1, []), (56, .iinc 3 1, []), (59, .goto 0, [1])] := rfl
theorem pg_Sh_checksum_2 : zprog 109 2 = [(62, .aload 0, []), (63, .getfield 0, [5, 3]), (66, .lload 1, []), (67, .invokevirtual 0, [14, 2, 4]), (70, .lreturn, [])] := rfl
theorem pg_Sh_isSound_0 : zprog 110 0 = [(0, .iconst 0, []), (1, .istore 1, []), (2, .nop, [1])] := rfl
theorem pg_Sh_isSound_1 : zprog 110 1 = [(2, .iload 1, []), (3, .aload 0, []), (4, .getfield 0, [5, 2]), (7, .invokevirtual 0, [249, 1, 7]), (12, .if_icmp .ge 0, [3]), (15, .aload 0, []), (16, .aload 0, []), (17, .getfield 0, [5, 2]), (20, .iload 1, []), (21, .invokevirtual 0, [251, 2, 7]), (26, .checkcast 0, [0]), (29, .invokevirtual 0, [150, 2, 5]), (32, .ifCond .ne 0, [2]), (35, .iconst 0, []), (36, .ireturn, [2])] := rfl
theorem pg_Sh_isSound_2 : zprog 110 2 = [(37, .iinc 1 1, []), (40, .goto 0, [1])] := rfl
theorem pg_Sh_isSound_3 : zprog 110 3 = [(43, .aload 0, []), (44, .invokevirtual 0, [152, 1, 5]), (47, .ifCond .eq 0, [4]), (50, .aload 0, []), (51, .invokevirtual 0, [153, 1, 5]), (54, .ifCond .eq 0, [4]), (57, .aload 0, []), (58, .invokevirtual 0, [154, 1, 5]), (61, .ifCond .eq 0, [4]), (64, .iconst 1, []), (65, .goto 0, [5])] := rfl
theorem pg_Sh_isSound_4 : zprog 110 4 = [(68, .iconst 0, []), (69, .nop, [5])] := rfl
theorem pg_Sh_isSound_5 : zprog 110 5 = [(69, .ireturn, [2])] := rfl
theorem pg_Sh_numberOf_0 : zprog 111 0 = [(0, .iload 0, []), (1, .iconst 97, []), (3, .if_icmp .lt 0, [1]), (6, .iload 0, []), (7, .iconst 122, []), (9, .if_icmp .le 0, [2]), (12, .nop, [1])] := rfl
theorem pg_Sh_numberOf_1 : zprog 111 1 = [(12, .new 0, [8, 1])] := rfl
theorem pg_Sh_numberOf_2 : zprog 111 2 = [(23, .iload 0, []), (24, .iconst 97, []), (26, .isub, []), (27, .ireturn, [])] := rfl
theorem pg_Sh_signOf_0 : zprog 112 0 = [(0, .iconst 97, []), (2, .iload 0, []), (3, .iadd, []), (4, .i2c, []), (5, .ireturn, [1])] := rfl
theorem pg_Sh_needRoomFor_0 : zprog 113 0 = [(0, .aload 0, []), (1, .getfield 0, [5, 0]), (4, .invokevirtual 0, [1, 1, 4]), (7, .iload 1, []), (8, .iadd, []), (9, .iconst 120, []), (11, .if_icmp .le 0, [1]), (14, .new 0, [9, 1])] := rfl
theorem pg_Sh_needRoomFor_1 : zprog 113 1 = [(25, .return_, [])] := rfl
theorem pg_Sh_needCounts_0 : zprog 114 0 = [(0, .aload 0, []), (1, .invokevirtual 0, [124, 1, 5]), (4, .ifCond .ne 0, [1]), (7, .new 0, [11, 1])] := rfl
theorem pg_Sh_needCounts_1 : zprog 114 1 = [(18, .return_, [])] := rfl
theorem pg_Sh_needRoomForCode_0 : zprog 115 0 = [(0, .aload 0, []), (1, .getfield 0, [5, 2]), (4, .invokevirtual 0, [249, 1, 7]), (9, .iconst 12, []), (11, .if_icmp .lt 0, [1]), (14, .new 0, [9, 1])] := rfl
theorem pg_Sh_needRoomForCode_1 : zprog 115 1 = [(25, .return_, [])] := rfl
theorem pg_Sh_needBound_0 : zprog 116 0 = [(0, .iload 0, []), (1, .iconst 1, []), (2, .if_icmp .lt 0, [1]), (5, .iload 0, []), (6, .iconst 25, []), (8, .if_icmp .le 0, [2]), (11, .nop, [1])] := rfl
theorem pg_Sh_needBound_1 : zprog 116 1 = [(11, .new 0, [8, 1])] := rfl
theorem pg_Sh_needBound_2 : zprog 116 2 = [(22, .return_, [])] := rfl
theorem pg_Sh_needWideBound_0 : zprog 117 0 = [(0, .aload 0, []), (1, .invokevirtual 0, [124, 1, 5]), (4, .iconst 1, []), (5, .iload 1, []), (6, .ishl, []), (7, .if_icmp .le 0, [1]), (10, .new 0, [12, 1])] := rfl
theorem pg_Sh_needWideBound_1 : zprog 117 1 = [(21, .return_, [])] := rfl
theorem pg_Sh_needWordBits_0 : zprog 118 0 = [(0, .iload 0, []), (1, .iconst 1, []), (2, .if_icmp .lt 0, [1]), (5, .iload 0, []), (6, .iconst 25, []), (8, .if_icmp .le 0, [2]), (11, .nop, [1])] := rfl
theorem pg_Sh_needWordBits_1 : zprog 118 1 = [(11, .new 0, [8, 1])] := rfl
theorem pg_Sh_needWordBits_2 : zprog 118 2 = [(22, .return_, [])] := rfl
theorem pg_Sh_needBit_0 : zprog 119 0 = [(0, .iload 1, []), (1, .ifCond .lt 0, [1]), (4, .iload 1, []), (5, .aload 0, []), (6, .getfield 0, [5, 3]), (9, .invokevirtual 0, [1, 1, 4]), (12, .if_icmp .lt 0, [2]), (15, .nop, [1])] := rfl
theorem pg_Sh_needBit_1 : zprog 119 1 = [(15, .new 0, [10, 1])] := rfl
theorem pg_Sh_needBit_2 : zprog 119 2 = [(26, .return_, [])] := rfl
theorem pg_Sh_codeAt_0 : zprog 120 0 = [(0, .iload 1, []), (1, .ifCond .lt 0, [1]), (4, .iload 1, []), (5, .aload 0, []), (6, .getfield 0, [5, 2]), (9, .invokevirtual 0, [249, 1, 7]), (14, .if_icmp .lt 0, [2]), (17, .nop, [1])] := rfl
theorem pg_Sh_codeAt_1 : zprog 120 1 = [(17, .new 0, [10, 1])] := rfl
theorem pg_Sh_codeAt_2 : zprog 120 2 = [(28, .aload 0, []), (29, .getfield 0, [5, 2]), (32, .iload 1, []), (33, .invokevirtual 0, [251, 2, 7]), (38, .checkcast 0, [0]), (41, .areturn, [])] := rfl
theorem pg_Sh_refuseTriples_0 : zprog 121 0 = [(0, .aload 0, []), (1, .invokevirtual 0, [17, 1, 0]), (4, .ifCond .eq 0, [1]), (7, .new 0, [12, 1])] := rfl
theorem pg_Sh_refuseTriples_1 : zprog 121 1 = [(18, .return_, [])] := rfl
theorem pg_Sh_refuseEmptyWord_0 : zprog 122 0 = [(0, .aload 0, []), (1, .getfield 0, [0, 1]), (4, .iconst 0, []), (5, .invokevirtual 0, [12, 2, 4]), (8, .ifCond .le 0, [1]), (11, .new 0, [12, 1])] := rfl
theorem pg_Sh_refuseEmptyWord_1 : zprog 122 1 = [(22, .return_, [])] := rfl
theorem pg_Sh_needWordsForCounts_0 : zprog 123 0 = [(0, .iconst 0, []), (1, .istore 2, []), (2, .nop, [1])] := rfl
theorem pg_Sh_needWordsForCounts_1 : zprog 123 1 = [(2, .iload 2, []), (3, .iconst 26, []), (5, .if_icmp .ge 0, [3]), (8, .aload 0, []), (9, .getfield 0, [5, 1]), (12, .iload 2, []), (13, .invokevirtual 0, [2, 2, 4]), (16, .ifCond .le 0, [2]), (19, .aload 1, []), (20, .getfield 0, [0, 1]), (23, .iload 2, []), (24, .invokevirtual 0, [2, 2, 4]), (27, .ifCond .ge 0, [2]), (30, .new 0, [11, 1])] := rfl
theorem pg_Sh_needWordsForCounts_2 : zprog 123 2 = [(41, .iinc 2 1, []), (44, .goto 0, [1])] := rfl
theorem pg_Sh_needWordsForCounts_3 : zprog 123 3 = [(47, .return_, [])] := rfl
theorem pg_Sh_countedSigns_0 : zprog 124 0 = [(0, .iconst 26, []), (2, .aload 0, []), (3, .getfield 0, [5, 1]), (6, .iconst 0, []), (7, .invokevirtual 0, [12, 2, 4]), (10, .isub, []), (11, .ireturn, [])] := rfl
theorem pg_Sh_countPart_0 : zprog 125 0 = [(0, .aload 3, []), (1, .iconst 26, []), (3, .iconst 0, []), (4, .invokevirtual 0, [8, 3, 4]), (7, .iload 1, []), (8, .istore 4, []), (10, .nop, [1])] := rfl
theorem pg_Sh_countPart_1 : zprog 125 1 = [(10, .iload 4, []), (12, .iload 2, []), (13, .if_icmp .ge 0, [2]), (16, .aload 0, []), (17, .getfield 0, [5, 0]), (20, .iload 4, []), (22, .invokevirtual 0, [2, 2, 4]), (25, .istore 5, []), (27, .aload 3, []), (28, .iload 5, []), (30, .aload 3, []), (31, .iload 5, []), (33, .invokevirtual 0, [2, 2, 4]), (36, .iconst 1, []), (37, .iadd, []), (38, .invokevirtual 0, [3, 3, 4]), (41, .iinc 4 1, []), (44, .goto 0, [1])] := rfl
theorem pg_Sh_countPart_2 : zprog 125 2 = [(47, .return_, [])] := rfl
theorem pg_Sh_leastLengths_0 : zprog 126 0 = [(0, .aload 0, []), (1, .getfield 0, [5, 5]), (4, .aload 0, []), (5, .getfield 0, [5, 1]), (8, .iload 1, []), (9, .invokevirtual 0, [37, 3, 2]), (12, .aload 0, []), (13, .getfield 0, [5, 5]), (16, .aload 0, []), (17, .getfield 0, [5, 10]), (20, .invokevirtual 0, [44, 2, 2]), (23, .return_, [])] := rfl
theorem pg_Sh_orderedLengths_0 : zprog 127 0 = [(0, .aload 0, []), (1, .getfield 0, [5, 5]), (4, .aload 0, []), (5, .getfield 0, [5, 1]), (8, .iload 1, []), (9, .invokevirtual 0, [37, 3, 2]), (12, .aload 0, []), (13, .getfield 0, [5, 5]), (16, .aload 0, []), (17, .getfield 0, [5, 10]), (20, .invokevirtual 0, [44, 2, 2]), (23, .return_, [])] := rfl
theorem pg_Sh_costOf_0 : zprog 128 0 = [(0, .iconst 0, []), (1, .istore 2, []), (2, .iconst 0, []), (3, .istore 3, []), (4, .nop, [1])] := rfl
theorem pg_Sh_costOf_1 : zprog 128 1 = [(4, .iload 3, []), (5, .iconst 26, []), (7, .if_icmp .ge 0, [2]), (10, .iload 2, []), (11, .aload 0, []), (12, .getfield 0, [5, 1]), (15, .iload 3, []), (16, .invokevirtual 0, [2, 2, 4]), (19, .aload 1, []), (20, .iload 3, []), (21, .invokevirtual 0, [2, 2, 4]), (24, .imul, []), (25, .iadd, []), (26, .istore 2, []), (27, .iinc 3 1, []), (30, .goto 0, [1])] := rfl
theorem pg_Sh_costOf_2 : zprog 128 2 = [(33, .iload 2, []), (34, .ireturn, [])] := rfl
theorem pg_Sh_boundedBits_0 : zprog 129 0 = [(0, .aload 0, []), (1, .getfield 0, [5, 6]), (4, .aload 0, []), (5, .getfield 0, [5, 1]), (8, .iload 1, []), (9, .aload 0, []), (10, .getfield 0, [5, 10]), (13, .invokevirtual 0, [47, 4, 1]), (16, .aload 0, []), (17, .aload 0, []), (18, .getfield 0, [5, 10]), (21, .invokevirtual 0, [128, 2, 5]), (24, .ireturn, [])] := rfl
theorem pg_Sh_orderedBits_0 : zprog 130 0 = [(0, .aload 0, []), (1, .getfield 0, [5, 5]), (4, .aload 0, []), (5, .getfield 0, [5, 1]), (8, .invokevirtual 0, [40, 2, 2]), (11, .aload 0, []), (12, .getfield 0, [5, 5]), (15, .invokevirtual 0, [45, 1, 2]), (18, .ireturn, [])] := rfl
theorem pg_Sh_partBits_0 : zprog 131 0 = [(0, .aload 0, []), (1, .iload 1, []), (2, .iload 2, []), (3, .aload 0, []), (4, .getfield 0, [5, 11]), (7, .invokevirtual 0, [125, 4, 5]), (10, .aload 0, []), (11, .getfield 0, [5, 5]), (14, .aload 0, []), (15, .getfield 0, [5, 11]), (18, .iconst 0, []), (19, .invokevirtual 0, [37, 3, 2]), (22, .aload 0, []), (23, .getfield 0, [5, 5]), (26, .invokevirtual 0, [45, 1, 2]), (29, .iconst 130, []), (32, .iadd, []), (33, .ireturn, [])] := rfl
theorem pg_Sh_cutBits_0 : zprog 132 0 = [(0, .aload 0, []), (1, .iconst 0, []), (2, .iload 1, []), (3, .invokevirtual 0, [131, 3, 5]), (6, .aload 0, []), (7, .iload 1, []), (8, .aload 0, []), (9, .getfield 0, [5, 0]), (12, .invokevirtual 0, [1, 1, 4]), (15, .invokevirtual 0, [131, 3, 5]), (18, .iadd, []), (19, .ireturn, [])] := rfl
theorem pg_Sh_blockFrom_0 : zprog 133 0 = [(0, .iconst 0, []), (1, .istore 3, []), (2, .iload 1, []), (3, .istore 4, []), (5, .nop, [1])] := rfl
theorem pg_Sh_blockFrom_1 : zprog 133 1 = [(5, .iload 4, []), (7, .iload 1, []), (8, .iload 2, []), (9, .iadd, []), (10, .if_icmp .ge 0, [2]), (13, .iload 4, []), (15, .aload 0, []), (16, .getfield 0, [5, 0]), (19, .invokevirtual 0, [1, 1, 4]), (22, .if_icmp .ge 0, [2]), (25, .iload 3, []), (26, .iconst 27, []), (28, .imul, []), (29, .aload 0, []), (30, .getfield 0, [5, 0]), (33, .iload 4, []), (35, .invokevirtual 0, [2, 2, 4]), (38, .iadd, []), (39, .iconst 1, []), (40, .iadd, []), (41, .istore 3, []), (42, .iinc 4 1, []), (45, .goto 0, [1])] := rfl
theorem pg_Sh_blockFrom_2 : zprog 133 2 = [(48, .iload 3, []), (49, .ireturn, [])] := rfl
theorem pg_Sh_countBlock_0 : zprog 134 0 = [(0, .aload 0, []), (1, .getfield 0, [5, 12]), (4, .iload 1, []), (5, .invokevirtual 0, [11, 2, 4]), (8, .istore 2, []), (9, .iload 2, []), (10, .ifCond .ge 0, [1]), (13, .aload 0, []), (14, .getfield 0, [5, 12]), (17, .iload 1, []), (18, .invokevirtual 0, [4, 2, 4]), (21, .aload 0, []), (22, .getfield 0, [5, 13]), (25, .iconst 1, []), (26, .invokevirtual 0, [4, 2, 4]), (29, .goto 0, [2])] := rfl
theorem pg_Sh_countBlock_1 : zprog 134 1 = [(32, .aload 0, []), (33, .getfield 0, [5, 13]), (36, .iload 2, []), (37, .aload 0, []), (38, .getfield 0, [5, 13]), (41, .iload 2, []), (42, .invokevirtual 0, [2, 2, 4]), (45, .iconst 1, []), (46, .iadd, []), (47, .invokevirtual 0, [3, 3, 4]), (50, .nop, [2])] := rfl
theorem pg_Sh_countBlock_2 : zprog 134 2 = [(50, .return_, [])] := rfl
theorem pg_Sh_steepCount_0 : zprog 135 0 = [(0, .iconst 1, []), (1, .istore 1, []), (2, .iconst 1, []), (3, .istore 2, []), (4, .iconst 3, []), (5, .istore 3, []), (6, .nop, [1])] := rfl
theorem pg_Sh_steepCount_1 : zprog 135 1 = [(6, .iload 3, []), (7, .iload 0, []), (8, .if_icmp .gt 0, [2]), (11, .iload 1, []), (12, .iload 2, []), (13, .iadd, []), (14, .istore 4, []), (16, .iload 2, []), (17, .istore 1, []), (18, .iload 4, []), (20, .istore 2, []), (21, .iinc 3 1, []), (24, .goto 0, [1])] := rfl
theorem pg_Sh_steepCount_2 : zprog 135 2 = [(27, .iload 2, []), (28, .ireturn, [])] := rfl
theorem pg_Sh_keepByLengths_0 : zprog 136 0 = [(0, .new 0, [0, 0]), (3, .dup, []), (4, .iload 1, []), (5, .iconst 26, []), (7, .invokespecial 0, [16, 3]), (10, .astore 2, []), (11, .aload 2, []), (12, .getfield 0, [0, 1]), (15, .aload 0, []), (16, .getfield 0, [5, 10]), (19, .invokevirtual 0, [9, 2, 4]), (22, .aload 2, []), (23, .invokevirtual 0, [23, 1, 0]), (26, .aload 0, []), (27, .aload 2, []), (28, .invokevirtual 0, [137, 2, 5]), (31, .ireturn, [])] := rfl
theorem pg_Sh_keep_0 : zprog 137 0 = [(0, .aload 0, []), (1, .getfield 0, [5, 2]), (4, .aload 1, []), (5, .invokevirtual 0, [253, 2, 7]), (10, .pop, []), (11, .aload 0, []), (12, .getfield 0, [5, 2]), (15, .invokevirtual 0, [249, 1, 7]), (20, .iconst 1, []), (21, .isub, []), (22, .ireturn, [])] := rfl
theorem pg_Sh_layText_0 : zprog 138 0 = [(0, .aload 2, []), (1, .invokevirtual 0, [7, 1, 4]), (4, .iconst 0, []), (5, .istore 3, []), (6, .nop, [1])] := rfl
theorem pg_Sh_layText_1 : zprog 138 1 = [(6, .iload 3, []), (7, .aload 0, []), (8, .getfield 0, [5, 0]), (11, .invokevirtual 0, [1, 1, 4]), (14, .if_icmp .ge 0, [2]), (17, .aload 1, []), (18, .aload 0, []), (19, .getfield 0, [5, 0]), (22, .iload 3, []), (23, .invokevirtual 0, [2, 2, 4]), (26, .aload 2, []), (27, .invokevirtual 0, [32, 3, 0]), (30, .iinc 3 1, []), (33, .goto 0, [1])] := rfl
theorem pg_Sh_layText_2 : zprog 138 2 = [(36, .return_, [])] := rfl
theorem pg_Sh_gatherText_0 : zprog 139 0 = [(0, .aload 3, []), (1, .invokevirtual 0, [7, 1, 4]), (4, .iconst 0, []), (5, .istore 4, []), (7, .iconst 0, []), (8, .istore 5, []), (10, .nop, [1])] := rfl
theorem pg_Sh_gatherText_1 : zprog 139 1 = [(10, .iload 5, []), (12, .iload 2, []), (13, .if_icmp .ge 0, [3]), (16, .aload 0, []), (17, .aload 1, []), (18, .iload 4, []), (20, .iconst (-1), []), (21, .invokevirtual 0, [33, 4, 0]), (24, .istore 6, []), (26, .iload 6, []), (28, .ifCond .ge 0, [2]), (31, .return_, [])] := rfl
theorem pg_Sh_gatherText_2 : zprog 139 2 = [(32, .aload 3, []), (33, .iload 6, []), (35, .invokevirtual 0, [4, 2, 4]), (38, .iload 4, []), (40, .aload 0, []), (41, .getfield 0, [0, 1]), (44, .iload 6, []), (46, .invokevirtual 0, [2, 2, 4]), (49, .iadd, []), (50, .istore 4, []), (52, .iinc 5 1, []), (55, .goto 0, [1])] := rfl
theorem pg_Sh_gatherText_3 : zprog 139 3 = [(58, .return_, [])] := rfl
theorem pg_Sh_numberFrom_0 : zprog 140 0 = [(0, .iconst 0, []), (1, .istore 3, []), (2, .iconst 0, []), (3, .istore 4, []), (5, .nop, [1])] := rfl
theorem pg_Sh_numberFrom_1 : zprog 140 1 = [(5, .iload 4, []), (7, .iload 2, []), (8, .if_icmp .ge 0, [2]), (11, .iconst 2, []), (12, .iload 3, []), (13, .imul, []), (14, .aload 0, []), (15, .iload 1, []), (16, .iload 4, []), (18, .iadd, []), (19, .invokevirtual 0, [2, 2, 4]), (22, .iadd, []), (23, .istore 3, []), (24, .iinc 4 1, []), (27, .goto 0, [1])] := rfl
theorem pg_Sh_numberFrom_2 : zprog 140 2 = [(30, .iload 3, []), (31, .ireturn, [])] := rfl
theorem pg_Sh_nextEnd_0 : zprog 141 0 = [(0, .aload 1, []), (1, .aload 0, []), (2, .getfield 0, [5, 3]), (5, .iload 2, []), (6, .iload 3, []), (7, .invokevirtual 0, [33, 4, 0]), (10, .istore 4, []), (12, .iload 4, []), (14, .ifCond .ge 0, [1]), (17, .iconst (-1), []), (18, .goto 0, [2])] := rfl
theorem pg_Sh_nextEnd_1 : zprog 141 1 = [(21, .iload 2, []), (22, .aload 1, []), (23, .getfield 0, [0, 1]), (26, .iload 4, []), (28, .invokevirtual 0, [2, 2, 4]), (31, .iadd, []), (32, .nop, [2])] := rfl
theorem pg_Sh_nextEnd_2 : zprog 141 2 = [(32, .ireturn, [])] := rfl
theorem pg_Sh_lastEnd_0 : zprog 142 0 = [(0, .iload 2, []), (1, .istore 4, []), (3, .iload 2, []), (4, .istore 5, []), (6, .nop, [1])] := rfl
theorem pg_Sh_lastEnd_1 : zprog 142 1 = [(6, .iload 5, []), (8, .iload 3, []), (9, .if_icmp .ge 0, [4]), (12, .aload 0, []), (13, .aload 1, []), (14, .iload 4, []), (16, .iconst (-1), []), (17, .invokevirtual 0, [141, 4, 5]), (20, .istore 6, []), (22, .iload 6, []), (24, .ifCond .lt 0, [2]), (27, .iload 6, []), (29, .iload 3, []), (30, .if_icmp .le 0, [3]), (33, .nop, [2])] := rfl
theorem pg_Sh_lastEnd_2 : zprog 142 2 = [(33, .iload 4, []), (35, .ireturn, [])] := rfl
theorem pg_Sh_lastEnd_3 : zprog 142 3 = [(36, .iload 6, []), (38, .istore 4, []), (40, .iinc 5 1, []), (43, .goto 0, [1])] := rfl
theorem pg_Sh_lastEnd_4 : zprog 142 4 = [(46, .iload 4, []), (48, .ireturn, [])] := rfl
theorem pg_Sh_stepBehind_0 : zprog 143 0 = [(0, .iload 2, []), (1, .istore 4, []), (3, .iload 2, []), (4, .istore 5, []), (6, .iconst 0, []), (7, .istore 6, []), (9, .nop, [1])] := rfl
theorem pg_Sh_stepBehind_1 : zprog 143 1 = [(9, .iload 6, []), (11, .iconst 6000, []), (14, .if_icmp .ge 0, [7]), (17, .iload 4, []), (19, .iload 5, []), (21, .if_icmp .gt 0, [2]), (24, .aload 0, []), (25, .aload 1, []), (26, .iload 4, []), (28, .iconst (-1), []), (29, .invokevirtual 0, [141, 4, 5]), (32, .istore 4, []), (34, .goto 0, [3])] := rfl
theorem pg_Sh_stepBehind_2 : zprog 143 2 = [(37, .aload 0, []), (38, .aload 1, []), (39, .iload 5, []), (41, .iload 3, []), (42, .invokevirtual 0, [141, 4, 5]), (45, .istore 5, []), (47, .nop, [3])] := rfl
theorem pg_Sh_stepBehind_3 : zprog 143 3 = [(47, .iload 4, []), (49, .ifCond .lt 0, [4]), (52, .iload 5, []), (54, .ifCond .ge 0, [5]), (57, .nop, [4])] := rfl
theorem pg_Sh_stepBehind_4 : zprog 143 4 = [(57, .iconst (-1), []), (58, .ireturn, [])] := rfl
theorem pg_Sh_stepBehind_5 : zprog 143 5 = [(59, .iload 4, []), (61, .iload 5, []), (63, .if_icmp .ne 0, [6]), (66, .iload 4, []), (68, .iload 3, []), (69, .if_icmp .le 0, [6]), (72, .iload 4, []), (74, .ireturn, [])] := rfl
theorem pg_Sh_stepBehind_6 : zprog 143 6 = [(75, .iinc 6 1, []), (78, .goto 0, [1])] := rfl
theorem pg_Sh_stepBehind_7 : zprog 143 7 = [(81, .iconst (-1), []), (82, .ireturn, [])] := rfl
theorem pg_Sh_layFront_0 : zprog 144 0 = [(0, .aload 0, []), (1, .getfield 0, [5, 9]), (4, .invokevirtual 0, [7, 1, 4]), (7, .iconst 0, []), (8, .istore 1, []), (9, .nop, [1])] := rfl
theorem pg_Sh_layFront_1 : zprog 144 1 = [(9, .iload 1, []), (10, .iconst 26, []), (12, .if_icmp .ge 0, [2]), (15, .aload 0, []), (16, .getfield 0, [5, 9]), (19, .iload 1, []), (20, .invokevirtual 0, [4, 2, 4]), (23, .iinc 1 1, []), (26, .goto 0, [1])] := rfl
theorem pg_Sh_layFront_2 : zprog 144 2 = [(29, .return_, [])] := rfl
theorem pg_Sh_bringToFront_0 : zprog 145 0 = [(0, .aload 0, []), (1, .getfield 0, [5, 9]), (4, .iload 1, []), (5, .invokevirtual 0, [2, 2, 4]), (8, .istore 2, []), (9, .aload 0, []), (10, .getfield 0, [5, 9]), (13, .iload 1, []), (14, .invokevirtual 0, [6, 2, 4]), (17, .aload 0, []), (18, .getfield 0, [5, 9]), (21, .iconst 0, []), (22, .iload 2, []), (23, .invokevirtual 0, [5, 3, 4]), (26, .return_, [])] := rfl
theorem pg_Sh_tellMoves_0 : zprog 146 0 = [(0, .aload 2, []), (1, .invokevirtual 0, [7, 1, 4]), (4, .aload 0, []), (5, .invokevirtual 0, [144, 1, 5]), (8, .iconst 0, []), (9, .istore 3, []), (10, .nop, [1])] := rfl
theorem pg_Sh_tellMoves_1 : zprog 146 1 = [(10, .iload 3, []), (11, .aload 1, []), (12, .invokevirtual 0, [1, 1, 4]), (15, .if_icmp .ge 0, [2]), (18, .aload 0, []), (19, .getfield 0, [5, 9]), (22, .aload 1, []), (23, .iload 3, []), (24, .invokevirtual 0, [2, 2, 4]), (27, .invokevirtual 0, [11, 2, 4]), (30, .istore 4, []), (32, .aload 2, []), (33, .iload 4, []), (35, .invokevirtual 0, [4, 2, 4]), (38, .aload 0, []), (39, .iload 4, []), (41, .invokevirtual 0, [145, 2, 5]), (44, .iinc 3 1, []), (47, .goto 0, [1])] := rfl
theorem pg_Sh_tellMoves_2 : zprog 146 2 = [(50, .return_, [])] := rfl
theorem pg_Sh_undoMoves_0 : zprog 147 0 = [(0, .aload 2, []), (1, .invokevirtual 0, [7, 1, 4]), (4, .aload 0, []), (5, .invokevirtual 0, [144, 1, 5]), (8, .iconst 0, []), (9, .istore 3, []), (10, .nop, [1])] := rfl
theorem pg_Sh_undoMoves_1 : zprog 147 1 = [(10, .iload 3, []), (11, .aload 1, []), (12, .invokevirtual 0, [1, 1, 4]), (15, .if_icmp .ge 0, [2]), (18, .aload 2, []), (19, .aload 0, []), (20, .getfield 0, [5, 9]), (23, .aload 1, []), (24, .iload 3, []), (25, .invokevirtual 0, [2, 2, 4]), (28, .invokevirtual 0, [2, 2, 4]), (31, .invokevirtual 0, [4, 2, 4]), (34, .aload 0, []), (35, .aload 1, []), (36, .iload 3, []), (37, .invokevirtual 0, [2, 2, 4]), (40, .invokevirtual 0, [145, 2, 5]), (43, .iinc 3 1, []), (46, .goto 0, [1])] := rfl
theorem pg_Sh_undoMoves_2 : zprog 147 2 = [(49, .return_, [])] := rfl
theorem pg_Sh_tellRuns_0 : zprog 148 0 = [(0, .aload 1, []), (1, .invokevirtual 0, [7, 1, 4]), (4, .iconst 0, []), (5, .istore 2, []), (6, .iconst 0, []), (7, .istore 3, []), (8, .nop, [1])] := rfl
theorem pg_Sh_tellRuns_1 : zprog 148 1 = [(8, .iload 3, []), (9, .aload 0, []), (10, .getfield 0, [5, 0]), (13, .invokevirtual 0, [1, 1, 4]), (16, .if_icmp .ge 0, [7]), (19, .iinc 2 1, []), (22, .iload 3, []), (23, .iconst 1, []), (24, .iadd, []), (25, .aload 0, []), (26, .getfield 0, [5, 0]), (29, .invokevirtual 0, [1, 1, 4]), (32, .if_icmp .eq 0, [2]), (35, .aload 0, []), (36, .getfield 0, [5, 0]), (39, .iload 3, []), (40, .iconst 1, []), (41, .iadd, []), (42, .invokevirtual 0, [2, 2, 4]), (45, .aload 0, []), (46, .getfield 0, [5, 0]), (49, .iload 3, []), (50, .invokevirtual 0, [2, 2, 4]), (53, .if_icmp .eq 0, [3]), (56, .nop, [2])] := rfl
theorem pg_Sh_tellRuns_2 : zprog 148 2 = [(56, .iconst 1, []), (57, .goto 0, [4])] := rfl
theorem pg_Sh_tellRuns_3 : zprog 148 3 = [(60, .iconst 0, []), (61, .nop, [4])] := rfl
theorem pg_Sh_tellRuns_4 : zprog 148 4 = [(61, .istore 4, []), (63, .iload 4, []), (65, .ifCond .ne 0, [5]), (68, .iload 2, []), (69, .iconst 26, []), (71, .if_icmp .ne 0, [6]), (74, .nop, [5])] := rfl
theorem pg_Sh_tellRuns_5 : zprog 148 5 = [(74, .aload 1, []), (75, .aload 0, []), (76, .getfield 0, [5, 0]), (79, .iload 3, []), (80, .invokevirtual 0, [2, 2, 4]), (83, .invokevirtual 0, [4, 2, 4]), (86, .aload 1, []), (87, .iload 2, []), (88, .iconst 1, []), (89, .isub, []), (90, .invokevirtual 0, [4, 2, 4]), (93, .iconst 0, []), (94, .istore 2, []), (95, .nop, [6])] := rfl
theorem pg_Sh_tellRuns_6 : zprog 148 6 = [(95, .iinc 3 1, []), (98, .goto 0, [1])] := rfl
theorem pg_Sh_tellRuns_7 : zprog 148 7 = [(101, .return_, [])] := rfl
theorem pg_Sh_undoRuns_0 : zprog 149 0 = [(0, .aload 1, []), (1, .invokevirtual 0, [7, 1, 4]), (4, .iconst 0, []), (5, .istore 2, []), (6, .nop, [1])] := rfl
theorem pg_Sh_undoRuns_1 : zprog 149 1 = [(6, .iload 2, []), (7, .iconst 1, []), (8, .iadd, []), (9, .aload 0, []), (10, .getfield 0, [5, 0]), (13, .invokevirtual 0, [1, 1, 4]), (16, .if_icmp .ge 0, [4]), (19, .iconst 0, []), (20, .istore 3, []), (21, .nop, [2])] := rfl
theorem pg_Sh_undoRuns_2 : zprog 149 2 = [(21, .iload 3, []), (22, .aload 0, []), (23, .getfield 0, [5, 0]), (26, .iload 2, []), (27, .iconst 1, []), (28, .iadd, []), (29, .invokevirtual 0, [2, 2, 4]), (32, .if_icmp .gt 0, [3]), (35, .aload 1, []), (36, .aload 0, []), (37, .getfield 0, [5, 0]), (40, .iload 2, []), (41, .invokevirtual 0, [2, 2, 4]), (44, .invokevirtual 0, [4, 2, 4]), (47, .iinc 3 1, []), (50, .goto 0, [2])] := rfl
theorem pg_Sh_undoRuns_3 : zprog 149 3 = [(53, .iinc 2 2, []), (56, .goto 0, [1])] := rfl
theorem pg_Sh_undoRuns_4 : zprog 149 4 = [(59, .return_, [])] := rfl
theorem pg_Sh_codeIsSound_0 : zprog 150 0 = [(0, .aload 1, []), (1, .getfield 0, [0, 0]), (4, .iconst 104, []), (6, .if_icmp .eq 0, [1]), (9, .aload 1, []), (10, .getfield 0, [0, 0]), (13, .iconst 98, []), (15, .if_icmp .eq 0, [1]), (18, .aload 1, []), (19, .getfield 0, [0, 0]), (22, .iconst 111, []), (24, .if_icmp .ne 0, [2]), (27, .nop, [1])] := rfl
theorem pg_Sh_codeIsSound_1 : zprog 150 1 = [(27, .iconst 1, []), (28, .goto 0, [3])] := rfl
theorem pg_Sh_codeIsSound_2 : zprog 150 2 = [(31, .iconst 0, []), (32, .nop, [3])] := rfl
theorem pg_Sh_codeIsSound_3 : zprog 150 3 = [(32, .istore 2, []), (33, .aload 1, []), (34, .invokevirtual 0, [34, 1, 0]), (37, .ifCond .eq 0, [5]), (40, .iload 2, []), (41, .ifCond .eq 0, [4]), (44, .aload 1, []), (45, .invokevirtual 0, [26, 1, 0]), (48, .ldc2_w 0, [33554432, 0]), (51, .lcmp, []), (52, .ifCond .ne 0, [5]), (55, .nop, [4])] := rfl
theorem pg_Sh_codeIsSound_4 : zprog 150 4 = [(55, .aload 0, []), (56, .aload 1, []), (57, .invokevirtual 0, [151, 2, 5]), (60, .ifCond .eq 0, [5]), (63, .iconst 1, []), (64, .goto 0, [6])] := rfl
theorem pg_Sh_codeIsSound_5 : zprog 150 5 = [(67, .iconst 0, []), (68, .nop, [6])] := rfl
theorem pg_Sh_codeIsSound_6 : zprog 150 6 = [(68, .ireturn, [2])] := rfl
theorem pg_Sh_comesBackBy_0 : zprog 151 0 = [(0, .aload 1, []), (1, .invokevirtual 0, [17, 1, 0]), (4, .ifCond .ne 0, [1]), (7, .aload 1, []), (8, .aload 0, []), (9, .getfield 0, [5, 0]), (12, .invokevirtual 0, [20, 2, 0]), (15, .ifCond .ne 0, [2]), (18, .nop, [1])] := rfl
theorem pg_Sh_comesBackBy_1 : zprog 151 1 = [(18, .iconst 1, []), (19, .ireturn, [2])] := rfl
theorem pg_Sh_comesBackBy_2 : zprog 151 2 = [(20, .aload 0, []), (21, .aload 1, []), (22, .aload 0, []), (23, .getfield 0, [5, 16]), (26, .invokevirtual 0, [138, 3, 5]), (29, .aload 1, []), (30, .aload 0, []), (31, .getfield 0, [5, 16]), (34, .aload 0, []), (35, .getfield 0, [5, 0]), (38, .invokevirtual 0, [1, 1, 4]), (41, .aload 0, []), (42, .getfield 0, [5, 14]), (45, .invokestatic 0, [139, 4]), (48, .aload 0, []), (49, .getfield 0, [5, 0]), (52, .aload 0, []), (53, .getfield 0, [5, 14]), (56, .invokevirtual 0, [10, 2, 4]), (59, .ireturn, [2])] := rfl
theorem pg_Sh_costsAreSound_0 : zprog 152 0 = [(0, .aload 0, []), (1, .invokevirtual 0, [124, 1, 5]), (4, .istore 1, []), (5, .iload 1, []), (6, .ifCond .ne 0, [1]), (9, .iconst 1, []), (10, .ireturn, [2])] := rfl
theorem pg_Sh_costsAreSound_1 : zprog 152 1 = [(11, .aload 0, []), (12, .invokevirtual 0, [84, 1, 5]), (15, .istore 2, []), (16, .aload 0, []), (17, .invokevirtual 0, [130, 1, 5]), (20, .iload 2, []), (21, .if_icmp .ge 0, [2]), (24, .iconst 0, []), (25, .ireturn, [2])] := rfl
theorem pg_Sh_costsAreSound_2 : zprog 152 2 = [(26, .iconst (-1), []), (27, .istore 3, []), (28, .iconst 1, []), (29, .istore 4, []), (31, .nop, [3])] := rfl
theorem pg_Sh_costsAreSound_3 : zprog 152 3 = [(31, .iload 4, []), (33, .iconst 25, []), (35, .if_icmp .gt 0, [7]), (38, .iload 1, []), (39, .iconst 1, []), (40, .iload 4, []), (42, .ishl, []), (43, .if_icmp .gt 0, [6]), (46, .aload 0, []), (47, .iload 4, []), (49, .invokevirtual 0, [129, 2, 5]), (52, .istore 5, []), (54, .iload 5, []), (56, .iload 2, []), (57, .if_icmp .lt 0, [4]), (60, .iload 3, []), (61, .ifCond .lt 0, [5]), (64, .iload 5, []), (66, .iload 3, []), (67, .if_icmp .le 0, [5]), (70, .nop, [4])] := rfl
theorem pg_Sh_costsAreSound_4 : zprog 152 4 = [(70, .iconst 0, []), (71, .ireturn, [2])] := rfl
theorem pg_Sh_costsAreSound_5 : zprog 152 5 = [(72, .iload 5, []), (74, .istore 3, []), (75, .nop, [6])] := rfl
theorem pg_Sh_costsAreSound_6 : zprog 152 6 = [(75, .iinc 4 1, []), (78, .goto 0, [3])] := rfl
theorem pg_Sh_costsAreSound_7 : zprog 152 7 = [(81, .iconst 1, []), (82, .ireturn, [2])] := rfl
theorem pg_Sh_comesBackFromMoves_0 : zprog 153 0 = [(0, .aload 0, []), (1, .aload 0, []), (2, .getfield 0, [5, 0]), (5, .aload 0, []), (6, .getfield 0, [5, 15]), (9, .invokevirtual 0, [146, 3, 5]), (12, .aload 0, []), (13, .aload 0, []), (14, .getfield 0, [5, 15]), (17, .aload 0, []), (18, .getfield 0, [5, 14]), (21, .invokevirtual 0, [147, 3, 5]), (24, .aload 0, []), (25, .getfield 0, [5, 0]), (28, .aload 0, []), (29, .getfield 0, [5, 14]), (32, .invokevirtual 0, [10, 2, 4]), (35, .ireturn, [2])] := rfl
theorem pg_Sh_comesBackFromGrowing_0 : zprog 154 0 = [(0, .aload 0, []), (1, .getfield 0, [5, 7]), (4, .aload 0, []), (5, .getfield 0, [5, 0]), (8, .aload 0, []), (9, .getfield 0, [5, 16]), (12, .invokevirtual 0, [52, 3, 3]), (15, .aload 0, []), (16, .getfield 0, [5, 7]), (19, .aload 0, []), (20, .getfield 0, [5, 16]), (23, .aload 0, []), (24, .getfield 0, [5, 0]), (27, .invokevirtual 0, [1, 1, 4]), (30, .aload 0, []), (31, .getfield 0, [5, 14]), (34, .invokevirtual 0, [53, 4, 3]), (37, .aload 0, []), (38, .getfield 0, [5, 0]), (41, .aload 0, []), (42, .getfield 0, [5, 14]), (45, .invokevirtual 0, [10, 2, 4]), (48, .ireturn, [2])] := rfl
theorem pg_Mo_init_0 : zprog 155 0 = [(0, .aload 0, []), (1, .invokespecial 0, []), (4, .aload 0, []), (5, .iconst 26, []), (7, .newarray .int, [0]), (9, .putfield 0, [6, 0, 2]), (12, .aload 0, []), (13, .iconst 120, []), (15, .newarray .int, [0]), (17, .putfield 0, [6, 1, 2]), (20, .aload 0, []), (21, .iconst 12, []), (23, .newarray .int, [1]), (25, .putfield 0, [6, 3, 2]), (28, .aload 0, []), (29, .iconst 12, []), (31, .anewarray 0, [1]), (34, .putfield 0, [6, 4, 2]), (37, .aload 0, []), (38, .iconst 12, []), (40, .anewarray 0, [2]), (43, .putfield 0, [6, 5, 2]), (46, .aload 0, []), (47, .iconst 4200, []), (50, .newarray .int, [0]), (52, .putfield 0, [6, 7, 2]), (55, .aload 0, []), (56, .iconst 26, []), (58, .newarray .int, [0]), (60, .putfield 0, [6, 11, 2]), (63, .aload 0, []), (64, .iconst 120, []), (66, .newarray .int, [0]), (68, .putfield 0, [6, 12, 2]), (71, .aload 0, []), (72, .iconst 27, []), (74, .newarray .int, [0]), (76, .putfield 0, [6, 13, 2]), (79, .aload 0, []), (80, .iconst 27, []), (82, .newarray .int, [0]), (84, .putfield 0, [6, 14, 2]), (87, .aload 0, []), (88, .iconst 27, []), (90, .newarray .int, [3]), (92, .putfield 0, [6, 15, 2]), (95, .aload 0, []), (96, .iconst 242, []), (99, .newarray .int, [0]), (101, .putfield 0, [6, 16, 2]), (104, .aload 0, []), (105, .iconst 242, []), (108, .newarray .int, [0]), (110, .putfield 0, [6, 17, 2]), (113, .aload 0, []), (114, .iconst 242, []), (117, .newarray .int, [2]), (119, .putfield 0, [6, 18, 2]), (122, .aload 0, []), (123, .iconst 4201, []), (126, .newarray .int, [2]), (128, .putfield 0, [6, 19, 2]), (131, .aload 0, []), (132, .iconst 4201, []), (135, .newarray .int, [2]), (137, .putfield 0, [6, 20, 2]), (140, .aload 0, []), (141, .iconst 2, []), (142, .iconst 52, []), (144, .iconst 27, []), (146, .multianewarray 0 3, []), (150, .putfield 0, [6, 21, 2]), (153, .aload 0, []), (154, .iconst 2, []), (155, .iconst 52, []), (157, .multianewarray 0 2, []), (161, .putfield 0, [6, 22, 2]), (164, .return_, [])] := rfl
theorem pg_Mo_thrown_0 : zprog 156 0 = [(0, .aload 0, []), (1, .getfield 0, [6, 10]), (4, .ireturn, [])] := rfl
theorem pg_Mo_no_0 : zprog 157 0 = [(0, .aload 0, []), (1, .iload 1, []), (2, .ifCond .eq 0, [1]), (5, .iconst 0, []), (6, .goto 0, [2])] := rfl
theorem pg_Mo_no_1 : zprog 157 1 = [(9, .iload 2, []), (10, .nop, [2])] := rfl
theorem pg_Mo_no_2 : zprog 157 2 = [(10, .putfield 0, [6, 10, 0]), (13, .iload 1, []), (14, .ifCond .ne 0, [3]), (17, .iconst 1, []), (18, .goto 0, [4])] := rfl
theorem pg_Mo_no_3 : zprog 157 3 = [(21, .iconst 0, []), (22, .nop, [4])] := rfl
theorem pg_Mo_no_4 : zprog 157 4 = [(22, .ireturn, [2])] := rfl
theorem pg_Mo_in_0 : zprog 158 0 = [(0, .iload 0, []), (1, .iload 1, []), (2, .if_icmp .lt 0, [1]), (5, .iload 0, []), (6, .iload 2, []), (7, .if_icmp .gt 0, [1]), (10, .iconst 1, []), (11, .goto 0, [2])] := rfl
theorem pg_Mo_in_1 : zprog 158 1 = [(14, .iconst 0, []), (15, .nop, [2])] := rfl
theorem pg_Mo_in_2 : zprog 158 2 = [(15, .ireturn, [2])] := rfl
theorem pg_Mo_isSign_0 : zprog 159 0 = [(0, .iload 0, []), (1, .iconst 97, []), (3, .iconst 122, []), (5, .invokestatic 0, [158, 3]), (8, .ireturn, [2])] := rfl
theorem pg_Mo_isCode_0 : zprog 160 0 = [(0, .iload 1, []), (1, .iconst 0, []), (2, .aload 0, []), (3, .getfield 0, [6, 6]), (6, .iconst 1, []), (7, .isub, []), (8, .invokestatic 0, [158, 3]), (11, .ireturn, [2])] := rfl
theorem pg_Mo_type_0 : zprog 161 0 = [(0, .aload 0, []), (1, .iload 1, []), (2, .invokestatic 0, [159, 1]), (5, .iconst 1, []), (6, .invokevirtual 0, [157, 3, 6]), (9, .ifCond .ne 0, [3]), (12, .aload 0, []), (13, .aload 0, []), (14, .getfield 0, [6, 2]), (17, .iconst 120, []), (19, .if_icmp .ge 0, [1]), (22, .iconst 1, []), (23, .goto 0, [2])] := rfl
theorem pg_Mo_type_1 : zprog 161 1 = [(26, .iconst 0, []), (27, .nop, [2])] := rfl
theorem pg_Mo_type_2 : zprog 161 2 = [(27, .iconst 2, []), (28, .invokevirtual 0, [157, 3, 6]), (31, .ifCond .eq 0, [4]), (34, .nop, [3])] := rfl
theorem pg_Mo_type_3 : zprog 161 3 = [(34, .iconst 0, []), (35, .ireturn, [])] := rfl
theorem pg_Mo_type_4 : zprog 161 4 = [(36, .aload 0, []), (37, .getfield 0, [6, 1]), (40, .aload 0, []), (41, .getfield 0, [6, 2]), (44, .iload 1, []), (45, .iconst 97, []), (47, .isub, []), (48, .iastore, []), (49, .aload 0, []), (50, .dup, []), (51, .getfield 0, [6, 2]), (54, .iconst 1, []), (55, .iadd, []), (56, .putfield 0, [6, 2, 0]), (59, .aload 0, []), (60, .getfield 0, [6, 2]), (63, .ireturn, [])] := rfl
theorem pg_Mo_typeMore_0 : zprog 162 0 = [(0, .iconst 8, []), (2, .newarray .int, [1]), (4, .dup, []), (5, .iconst 0, []), (6, .iload 2, []), (7, .castore, []), (8, .dup, []), (9, .iconst 1, []), (10, .iload 3, []), (11, .castore, []), (12, .dup, []), (13, .iconst 2, []), (14, .iload 4, []), (16, .castore, []), (17, .dup, []), (18, .iconst 3, []), (19, .iload 5, []), (21, .castore, []), (22, .dup, []), (23, .iconst 4, []), (24, .iload 6, []), (26, .castore, []), (27, .dup, []), (28, .iconst 5, []), (29, .iload 7, []), (31, .castore, []), (32, .dup, []), (33, .iconst 6, []), (35, .iload 8, []), (37, .castore, []), (38, .dup, []), (39, .iconst 7, []), (41, .iload 9, []), (43, .castore, []), (44, .astore 10, []), (46, .iload 1, []), (47, .iconst 1, []), (48, .iconst 8, []), (50, .invokestatic 0, [158, 3]), (53, .istore 11, []), (55, .iconst 0, []), (56, .istore 12, []), (58, .nop, [1])] := rfl
theorem pg_Mo_typeMore_1 : zprog 162 1 = [(58, .iload 12, []), (60, .iconst 8, []), (62, .if_icmp .ge 0, [4]), (65, .iload 12, []), (67, .iload 1, []), (68, .if_icmp .ge 0, [4]), (71, .iload 11, []), (73, .ifCond .eq 0, [2]), (76, .aload 10, []), (78, .iload 12, []), (80, .caload, []), (81, .invokestatic 0, [159, 1]), (84, .ifCond .eq 0, [2]), (87, .iconst 1, []), (88, .goto 0, [3])] := rfl
theorem pg_Mo_typeMore_2 : zprog 162 2 = [(91, .iconst 0, []), (92, .nop, [3])] := rfl
theorem pg_Mo_typeMore_3 : zprog 162 3 = [(92, .istore 11, []), (94, .iinc 12 1, []), (97, .goto 0, [1])] := rfl
theorem pg_Mo_typeMore_4 : zprog 162 4 = [(100, .aload 0, []), (101, .iload 11, []), (103, .iconst 1, []), (104, .invokevirtual 0, [157, 3, 6]), (107, .ifCond .ne 0, [7]), (110, .aload 0, []), (111, .aload 0, []), (112, .getfield 0, [6, 2]), (115, .iload 1, []), (116, .iadd, []), (117, .iconst 120, []), (119, .if_icmp .gt 0, [5]), (122, .iconst 1, []), (123, .goto 0, [6])] := rfl
theorem pg_Mo_typeMore_5 : zprog 162 5 = [(126, .iconst 0, []), (127, .nop, [6])] := rfl
theorem pg_Mo_typeMore_6 : zprog 162 6 = [(127, .iconst 2, []), (128, .invokevirtual 0, [157, 3, 6]), (131, .ifCond .eq 0, [8]), (134, .nop, [7])] := rfl
theorem pg_Mo_typeMore_7 : zprog 162 7 = [(134, .iconst 0, []), (135, .ireturn, [])] := rfl
theorem pg_Mo_typeMore_8 : zprog 162 8 = [(136, .iconst 0, []), (137, .istore 12, []), (139, .nop, [9])] := rfl
theorem pg_Mo_typeMore_9 : zprog 162 9 = [(139, .iload 12, []), (141, .iload 1, []), (142, .if_icmp .ge 0, [10]), (145, .aload 0, []), (146, .getfield 0, [6, 1]), (149, .aload 0, []), (150, .getfield 0, [6, 2]), (153, .aload 10, []), (155, .iload 12, []), (157, .caload, []), (158, .iconst 97, []), (160, .isub, []), (161, .iastore, []), (162, .aload 0, []), (163, .dup, []), (164, .getfield 0, [6, 2]), (167, .iconst 1, []), (168, .iadd, []), (169, .putfield 0, [6, 2, 0]), (172, .iinc 12 1, []), (175, .goto 0, [9])] := rfl
theorem pg_Mo_typeMore_10 : zprog 162 10 = [(178, .aload 0, []), (179, .getfield 0, [6, 2]), (182, .ireturn, [])] := rfl
theorem pg_Mo_wipe_0 : zprog 163 0 = [(0, .aload 0, []), (1, .iconst 0, []), (2, .putfield 0, [6, 10, 0]), (5, .aload 0, []), (6, .getfield 0, [6, 2]), (9, .istore 1, []), (10, .aload 0, []), (11, .iconst 0, []), (12, .putfield 0, [6, 2, 0]), (15, .iload 1, []), (16, .ireturn, [])] := rfl
theorem pg_Mo_length_0 : zprog 164 0 = [(0, .aload 0, []), (1, .iconst 0, []), (2, .putfield 0, [6, 10, 0]), (5, .aload 0, []), (6, .getfield 0, [6, 2]), (9, .ireturn, [])] := rfl
theorem pg_Mo_typed_0 : zprog 165 0 = [(0, .aload 0, []), (1, .iload 1, []), (2, .iconst 0, []), (3, .aload 0, []), (4, .getfield 0, [6, 2]), (7, .iconst 1, []), (8, .isub, []), (9, .invokestatic 0, [158, 3]), (12, .iconst 1, []), (13, .invokevirtual 0, [157, 3, 6]), (16, .ifCond .eq 0, [1]), (19, .iconst 97, []), (21, .goto 0, [2])] := rfl
theorem pg_Mo_typed_1 : zprog 165 1 = [(24, .iconst 97, []), (26, .aload 0, []), (27, .getfield 0, [6, 1]), (30, .iload 1, []), (31, .iaload, []), (32, .iadd, []), (33, .i2c, []), (34, .nop, [2])] := rfl
theorem pg_Mo_typed_2 : zprog 165 2 = [(34, .ireturn, [1])] := rfl
theorem pg_Mo_set_0 : zprog 166 0 = [(0, .aload 0, []), (1, .iload 1, []), (2, .invokestatic 0, [159, 1]), (5, .ifCond .eq 0, [1]), (8, .iload 2, []), (9, .iconst 0, []), (10, .iconst 9999, []), (13, .invokestatic 0, [158, 3]), (16, .ifCond .eq 0, [1]), (19, .iconst 1, []), (20, .goto 0, [2])] := rfl
theorem pg_Mo_set_1 : zprog 166 1 = [(23, .iconst 0, []), (24, .nop, [2])] := rfl
theorem pg_Mo_set_2 : zprog 166 2 = [(24, .iconst 1, []), (25, .invokevirtual 0, [157, 3, 6]), (28, .ifCond .eq 0, [3]), (31, .iconst 0, []), (32, .ireturn, [])] := rfl
theorem pg_Mo_set_3 : zprog 166 3 = [(33, .aload 0, []), (34, .getfield 0, [6, 0]), (37, .iload 1, []), (38, .iconst 97, []), (40, .isub, []), (41, .iaload, []), (42, .istore 3, []), (43, .aload 0, []), (44, .getfield 0, [6, 0]), (47, .iload 1, []), (48, .iconst 97, []), (50, .isub, []), (51, .iload 2, []), (52, .iastore, []), (53, .iload 3, []), (54, .ireturn, [])] := rfl
theorem pg_Mo_count_0 : zprog 167 0 = [(0, .aload 0, []), (1, .iload 1, []), (2, .invokestatic 0, [159, 1]), (5, .iconst 1, []), (6, .invokevirtual 0, [157, 3, 6]), (9, .ifCond .eq 0, [1]), (12, .iconst 0, []), (13, .goto 0, [2])] := rfl
theorem pg_Mo_count_1 : zprog 167 1 = [(16, .aload 0, []), (17, .getfield 0, [6, 0]), (20, .iload 1, []), (21, .iconst 97, []), (23, .isub, []), (24, .iaload, []), (25, .nop, [2])] := rfl
theorem pg_Mo_count_2 : zprog 167 2 = [(25, .ireturn, [])] := rfl
theorem pg_Mo_above_0 : zprog 168 0 = [(0, .iconst 0, []), (1, .istore 1, []), (2, .aload 0, []), (3, .astore 2, []), (4, .aload 2, []), (5, .arraylength, []), (6, .istore 3, []), (7, .iconst 0, []), (8, .istore 4, []), (10, .nop, [1])] := rfl
theorem pg_Mo_above_1 : zprog 168 1 = [(10, .iload 4, []), (12, .iload 3, []), (13, .if_icmp .ge 0, [4]), (16, .aload 2, []), (17, .iload 4, []), (19, .iaload, []), (20, .istore 5, []), (22, .iload 1, []), (23, .iload 5, []), (25, .ifCond .le 0, [2]), (28, .iconst 1, []), (29, .goto 0, [3])] := rfl
theorem pg_Mo_above_2 : zprog 168 2 = [(32, .iconst 0, []), (33, .nop, [3])] := rfl
theorem pg_Mo_above_3 : zprog 168 3 = [(33, .iadd, []), (34, .istore 1, []), (35, .iinc 4 1, []), (38, .goto 0, [1])] := rfl
theorem pg_Mo_above_4 : zprog 168 4 = [(41, .iload 1, []), (42, .ireturn, [])] := rfl
theorem pg_Mo_countsOf_0 : zprog 169 0 = [(0, .iconst 0, []), (1, .istore 3, []), (2, .nop, [1])] := rfl
theorem pg_Mo_countsOf_1 : zprog 169 1 = [(2, .iload 3, []), (3, .iconst 26, []), (5, .if_icmp .ge 0, [2]), (8, .aload 0, []), (9, .getfield 0, [6, 11]), (12, .iload 3, []), (13, .iconst 0, []), (14, .iastore, []), (15, .iinc 3 1, []), (18, .goto 0, [1])] := rfl
theorem pg_Mo_countsOf_2 : zprog 169 2 = [(21, .iload 1, []), (22, .istore 3, []), (23, .nop, [3])] := rfl
theorem pg_Mo_countsOf_3 : zprog 169 3 = [(23, .iload 3, []), (24, .iload 2, []), (25, .if_icmp .ge 0, [4]), (28, .aload 0, []), (29, .getfield 0, [6, 11]), (32, .aload 0, []), (33, .getfield 0, [6, 1]), (36, .iload 3, []), (37, .iaload, []), (38, .dup2, []), (39, .iaload, []), (40, .iconst 1, []), (41, .iadd, []), (42, .iastore, []), (43, .iinc 3 1, []), (46, .goto 0, [3])] := rfl
theorem pg_Mo_countsOf_4 : zprog 169 4 = [(49, .aload 0, []), (50, .getfield 0, [6, 11]), (53, .areturn, [])] := rfl
theorem pg_Mo_take_0 : zprog 170 0 = [(0, .aload 0, []), (1, .iconst 0, []), (2, .putfield 0, [6, 10, 0]), (5, .aload 0, []), (6, .iconst 0, []), (7, .aload 0, []), (8, .getfield 0, [6, 2]), (11, .invokevirtual 0, [169, 3, 6]), (14, .astore 1, []), (15, .iconst 0, []), (16, .istore 2, []), (17, .nop, [1])] := rfl
theorem pg_Mo_take_1 : zprog 170 1 = [(17, .iload 2, []), (18, .iconst 26, []), (20, .if_icmp .ge 0, [2]), (23, .aload 0, []), (24, .getfield 0, [6, 0]), (27, .iload 2, []), (28, .aload 1, []), (29, .iload 2, []), (30, .iaload, []), (31, .iastore, []), (32, .iinc 2 1, []), (35, .goto 0, [1])] := rfl
theorem pg_Mo_take_2 : zprog 170 2 = [(38, .aload 1, []), (39, .invokestatic 0, [168, 1]), (42, .ireturn, [])] := rfl
theorem pg_Mo_clear_0 : zprog 171 0 = [(0, .aload 0, []), (1, .iconst 0, []), (2, .putfield 0, [6, 10, 0]), (5, .iconst 0, []), (6, .istore 1, []), (7, .iconst 0, []), (8, .istore 2, []), (9, .nop, [1])] := rfl
theorem pg_Mo_clear_1 : zprog 171 1 = [(9, .iload 2, []), (10, .iconst 26, []), (12, .if_icmp .ge 0, [2]), (15, .iload 1, []), (16, .aload 0, []), (17, .getfield 0, [6, 0]), (20, .iload 2, []), (21, .iaload, []), (22, .iadd, []), (23, .istore 1, []), (24, .aload 0, []), (25, .getfield 0, [6, 0]), (28, .iload 2, []), (29, .iconst 0, []), (30, .iastore, []), (31, .iinc 2 1, []), (34, .goto 0, [1])] := rfl
theorem pg_Mo_clear_2 : zprog 171 2 = [(37, .iload 1, []), (38, .ireturn, [])] := rfl
theorem pg_Mo_joined_0 : zprog 172 0 = [(0, .aload 1, []), (1, .arraylength, []), (2, .istore 4, []), (4, .aload 1, []), (5, .invokestatic 0, [168, 1]), (8, .istore 5, []), (10, .iconst 0, []), (11, .istore 6, []), (13, .nop, [1])] := rfl
theorem pg_Mo_joined_1 : zprog 172 1 = [(13, .iload 6, []), (15, .iconst 2, []), (16, .iload 4, []), (18, .imul, []), (19, .iconst 2, []), (20, .iadd, []), (21, .if_icmp .ge 0, [2]), (24, .aload 0, []), (25, .getfield 0, [6, 16]), (28, .iload 6, []), (30, .iconst 0, []), (31, .iastore, []), (32, .aload 0, []), (33, .getfield 0, [6, 17]), (36, .iload 6, []), (38, .iconst 0, []), (39, .iastore, []), (40, .aload 0, []), (41, .getfield 0, [6, 18]), (44, .iload 6, []), (46, .iconst 0, []), (47, .bastore, []), (48, .iinc 6 1, []), (51, .goto 0, [1])] := rfl
theorem pg_Mo_joined_2 : zprog 172 2 = [(54, .iconst 0, []), (55, .istore 6, []), (57, .nop, [3])] := rfl
theorem pg_Mo_joined_3 : zprog 172 3 = [(57, .iload 6, []), (59, .iload 4, []), (61, .if_icmp .ge 0, [6]), (64, .aload 0, []), (65, .getfield 0, [6, 16]), (68, .iload 6, []), (70, .iconst 1, []), (71, .iadd, []), (72, .aload 1, []), (73, .iload 6, []), (75, .iaload, []), (76, .iastore, []), (77, .aload 0, []), (78, .getfield 0, [6, 18]), (81, .iload 6, []), (83, .iconst 1, []), (84, .iadd, []), (85, .aload 1, []), (86, .iload 6, []), (88, .iaload, []), (89, .ifCond .le 0, [4]), (92, .iconst 1, []), (93, .goto 0, [5])] := rfl
theorem pg_Mo_joined_4 : zprog 172 4 = [(96, .iconst 0, []), (97, .nop, [5])] := rfl
theorem pg_Mo_joined_5 : zprog 172 5 = [(97, .bastore, []), (98, .iinc 6 1, []), (101, .goto 0, [3])] := rfl
theorem pg_Mo_joined_6 : zprog 172 6 = [(104, .iload 2, []), (105, .iconst 3, []), (106, .if_icmp .ne 0, [7]), (109, .iload 5, []), (111, .iconst 2, []), (112, .irem, []), (113, .ifCond .ne 0, [7]), (116, .aload 0, []), (117, .getfield 0, [6, 18]), (120, .iconst 0, []), (121, .iconst 1, []), (122, .bastore, []), (123, .iinc 5 1, []), (126, .nop, [7])] := rfl
theorem pg_Mo_joined_7 : zprog 172 7 = [(126, .iload 4, []), (128, .iconst 1, []), (129, .iadd, []), (130, .istore 6, []), (132, .nop, [8])] := rfl
theorem pg_Mo_joined_8 : zprog 172 8 = [(132, .iload 5, []), (134, .iconst 1, []), (135, .if_icmp .le 0, [16]), (138, .iconst 0, []), (139, .istore 7, []), (141, .nop, [9])] := rfl
theorem pg_Mo_joined_9 : zprog 172 9 = [(141, .iload 7, []), (143, .iload 2, []), (144, .if_icmp .ge 0, [15]), (147, .iconst (-1), []), (148, .istore 8, []), (150, .iconst 0, []), (151, .istore 9, []), (153, .nop, [10])] := rfl
theorem pg_Mo_joined_10 : zprog 172 10 = [(153, .iload 9, []), (155, .iload 6, []), (157, .if_icmp .ge 0, [14]), (160, .aload 0, []), (161, .getfield 0, [6, 18]), (164, .iload 9, []), (166, .baload, []), (167, .ifCond .eq 0, [12]), (170, .iload 8, []), (172, .ifCond .lt 0, [11]), (175, .aload 0, []), (176, .getfield 0, [6, 16]), (179, .iload 9, []), (181, .iaload, []), (182, .aload 0, []), (183, .getfield 0, [6, 16]), (186, .iload 8, []), (188, .iaload, []), (189, .if_icmp .ge 0, [12]), (192, .nop, [11])] := rfl
theorem pg_Mo_joined_11 : zprog 172 11 = [(192, .iload 9, []), (194, .goto 0, [13])] := rfl
theorem pg_Mo_joined_12 : zprog 172 12 = [(197, .iload 8, []), (199, .nop, [13])] := rfl
theorem pg_Mo_joined_13 : zprog 172 13 = [(199, .istore 8, []), (201, .iinc 9 1, []), (204, .goto 0, [10])] := rfl
theorem pg_Mo_joined_14 : zprog 172 14 = [(207, .aload 0, []), (208, .getfield 0, [6, 18]), (211, .iload 8, []), (213, .iconst 0, []), (214, .bastore, []), (215, .aload 0, []), (216, .getfield 0, [6, 17]), (219, .iload 8, []), (221, .iload 6, []), (223, .iastore, []), (224, .aload 0, []), (225, .getfield 0, [6, 16]), (228, .iload 6, []), (230, .dup2, []), (231, .iaload, []), (232, .aload 0, []), (233, .getfield 0, [6, 16]), (236, .iload 8, []), (238, .iaload, []), (239, .iadd, []), (240, .iastore, []), (241, .iinc 7 1, []), (244, .goto 0, [9])] := rfl
theorem pg_Mo_joined_15 : zprog 172 15 = [(247, .aload 0, []), (248, .getfield 0, [6, 18]), (251, .iload 6, []), (253, .iconst 1, []), (254, .bastore, []), (255, .iinc 6 1, []), (258, .iload 5, []), (260, .iload 2, []), (261, .iconst 1, []), (262, .isub, []), (263, .isub, []), (264, .istore 5, []), (266, .goto 0, [8])] := rfl
theorem pg_Mo_joined_16 : zprog 172 16 = [(269, .iconst 0, []), (270, .istore 7, []), (272, .nop, [17])] := rfl
theorem pg_Mo_joined_17 : zprog 172 17 = [(272, .iload 7, []), (274, .iload 4, []), (276, .if_icmp .ge 0, [22]), (279, .aload 3, []), (280, .iload 7, []), (282, .aload 1, []), (283, .iload 7, []), (285, .iaload, []), (286, .ifCond .le 0, [18]), (289, .iconst 0, []), (290, .goto 0, [19])] := rfl
theorem pg_Mo_joined_18 : zprog 172 18 = [(293, .iconst (-1), []), (294, .nop, [19])] := rfl
theorem pg_Mo_joined_19 : zprog 172 19 = [(294, .iastore, []), (295, .aload 0, []), (296, .getfield 0, [6, 17]), (299, .iload 7, []), (301, .iconst 1, []), (302, .iadd, []), (303, .iaload, []), (304, .istore 8, []), (306, .nop, [20])] := rfl
theorem pg_Mo_joined_20 : zprog 172 20 = [(306, .aload 1, []), (307, .iload 7, []), (309, .iaload, []), (310, .ifCond .le 0, [21]), (313, .iload 8, []), (315, .ifCond .le 0, [21]), (318, .aload 3, []), (319, .iload 7, []), (321, .dup2, []), (322, .iaload, []), (323, .iconst 1, []), (324, .iadd, []), (325, .iastore, []), (326, .aload 0, []), (327, .getfield 0, [6, 17]), (330, .iload 8, []), (332, .iaload, []), (333, .istore 8, []), (335, .goto 0, [20])] := rfl
theorem pg_Mo_joined_21 : zprog 172 21 = [(338, .iinc 7 1, []), (341, .goto 0, [17])] := rfl
theorem pg_Mo_joined_22 : zprog 172 22 = [(344, .aload 3, []), (345, .areturn, [])] := rfl
theorem pg_Mo_cost_0 : zprog 173 0 = [(0, .iconst 0, []), (1, .istore 2, []), (2, .iconst 0, []), (3, .istore 3, []), (4, .nop, [1])] := rfl
theorem pg_Mo_cost_1 : zprog 173 1 = [(4, .iload 3, []), (5, .aload 0, []), (6, .arraylength, []), (7, .if_icmp .ge 0, [4]), (10, .iload 2, []), (11, .aload 0, []), (12, .iload 3, []), (13, .iaload, []), (14, .ifCond .le 0, [2]), (17, .aload 0, []), (18, .iload 3, []), (19, .iaload, []), (20, .aload 1, []), (21, .iload 3, []), (22, .iaload, []), (23, .imul, []), (24, .goto 0, [3])] := rfl
theorem pg_Mo_cost_2 : zprog 173 2 = [(27, .iconst 0, []), (28, .nop, [3])] := rfl
theorem pg_Mo_cost_3 : zprog 173 3 = [(28, .iadd, []), (29, .istore 2, []), (30, .iinc 3 1, []), (33, .goto 0, [1])] := rfl
theorem pg_Mo_cost_4 : zprog 173 4 = [(36, .iload 2, []), (37, .ireturn, [])] := rfl
theorem pg_Mo_packed_0 : zprog 174 0 = [(0, .aload 1, []), (1, .invokestatic 0, [168, 1]), (4, .istore 4, []), (6, .iconst 0, []), (7, .istore 5, []), (9, .iconst 0, []), (10, .istore 6, []), (12, .nop, [1])] := rfl
theorem pg_Mo_packed_1 : zprog 174 1 = [(12, .iload 6, []), (14, .iload 2, []), (15, .if_icmp .ge 0, [13]), (18, .aload 0, []), (19, .getfield 0, [6, 22]), (22, .iload 6, []), (24, .iconst 2, []), (25, .irem, []), (26, .aaload, []), (27, .astore 7, []), (29, .aload 0, []), (30, .getfield 0, [6, 22]), (33, .iconst 1, []), (34, .iload 6, []), (36, .iconst 2, []), (37, .irem, []), (38, .isub, []), (39, .aaload, []), (40, .astore 8, []), (42, .iconst 0, []), (43, .istore 9, []), (45, .iconst 0, []), (46, .istore 10, []), (48, .nop, [2])] := rfl
theorem pg_Mo_packed_2 : zprog 174 2 = [(48, .iload 10, []), (50, .iconst 26, []), (52, .if_icmp .ge 0, [8]), (55, .aload 1, []), (56, .iload 10, []), (58, .iaload, []), (59, .ifCond .le 0, [7]), (62, .aload 0, []), (63, .getfield 0, [6, 21]), (66, .iload 6, []), (68, .iconst 2, []), (69, .irem, []), (70, .aaload, []), (71, .iload 9, []), (73, .aaload, []), (74, .astore 11, []), (76, .iconst 0, []), (77, .istore 12, []), (79, .nop, [3])] := rfl
theorem pg_Mo_packed_3 : zprog 174 3 = [(79, .iload 12, []), (81, .iconst 26, []), (83, .if_icmp .ge 0, [6]), (86, .aload 11, []), (88, .iload 12, []), (90, .iload 12, []), (92, .iload 10, []), (94, .if_icmp .ne 0, [4]), (97, .ldc2_w 0, [1, 0]), (98, .goto 0, [5])] := rfl
theorem pg_Mo_packed_4 : zprog 174 4 = [(101, .ldc2_w 0, [0, 0]), (102, .nop, [5])] := rfl
theorem pg_Mo_packed_5 : zprog 174 5 = [(102, .lastore, []), (103, .iinc 12 1, []), (106, .goto 0, [3])] := rfl
theorem pg_Mo_packed_6 : zprog 174 6 = [(109, .aload 11, []), (111, .iconst 26, []), (113, .aload 1, []), (114, .iload 10, []), (116, .iaload, []), (117, .i2l, []), (118, .lastore, []), (119, .aload 7, []), (121, .iload 9, []), (123, .aload 11, []), (125, .invokestatic 0, [175, 3]), (128, .istore 9, []), (130, .nop, [7])] := rfl
theorem pg_Mo_packed_7 : zprog 174 7 = [(130, .iinc 10 1, []), (133, .goto 0, [2])] := rfl
theorem pg_Mo_packed_8 : zprog 174 8 = [(136, .iconst 0, []), (137, .istore 10, []), (139, .nop, [9])] := rfl
theorem pg_Mo_packed_9 : zprog 174 9 = [(139, .iload 10, []), (141, .iconst 1, []), (142, .iadd, []), (143, .iload 5, []), (145, .if_icmp .ge 0, [12]), (148, .aload 0, []), (149, .getfield 0, [6, 21]), (152, .iload 6, []), (154, .iconst 2, []), (155, .irem, []), (156, .aaload, []), (157, .iload 9, []), (159, .aaload, []), (160, .astore 11, []), (162, .iconst 0, []), (163, .istore 12, []), (165, .nop, [10])] := rfl
theorem pg_Mo_packed_10 : zprog 174 10 = [(165, .iload 12, []), (167, .iconst 26, []), (169, .if_icmp .gt 0, [11]), (172, .aload 11, []), (174, .iload 12, []), (176, .aload 8, []), (178, .iload 10, []), (180, .aaload, []), (181, .iload 12, []), (183, .laload, []), (184, .aload 8, []), (186, .iload 10, []), (188, .iconst 1, []), (189, .iadd, []), (190, .aaload, []), (191, .iload 12, []), (193, .laload, []), (194, .ladd, []), (195, .lastore, []), (196, .iinc 12 1, []), (199, .goto 0, [10])] := rfl
theorem pg_Mo_packed_11 : zprog 174 11 = [(202, .aload 7, []), (204, .iload 9, []), (206, .aload 11, []), (208, .invokestatic 0, [175, 3]), (211, .istore 9, []), (213, .iinc 10 2, []), (216, .goto 0, [9])] := rfl
theorem pg_Mo_packed_12 : zprog 174 12 = [(219, .iload 9, []), (221, .istore 5, []), (223, .iinc 6 1, []), (226, .goto 0, [1])] := rfl
theorem pg_Mo_packed_13 : zprog 174 13 = [(229, .aload 0, []), (230, .getfield 0, [6, 22]), (233, .iload 2, []), (234, .iconst 1, []), (235, .iadd, []), (236, .iconst 2, []), (237, .irem, []), (238, .aaload, []), (239, .astore 6, []), (241, .iconst 0, []), (242, .istore 7, []), (244, .nop, [14])] := rfl
theorem pg_Mo_packed_14 : zprog 174 14 = [(244, .iload 7, []), (246, .iconst 26, []), (248, .if_icmp .ge 0, [19]), (251, .aload 3, []), (252, .iload 7, []), (254, .aload 1, []), (255, .iload 7, []), (257, .iaload, []), (258, .ifCond .le 0, [15]), (261, .iconst 0, []), (262, .goto 0, [16])] := rfl
theorem pg_Mo_packed_15 : zprog 174 15 = [(265, .iconst (-1), []), (266, .nop, [16])] := rfl
theorem pg_Mo_packed_16 : zprog 174 16 = [(266, .iastore, []), (267, .iconst 0, []), (268, .istore 8, []), (270, .nop, [17])] := rfl
theorem pg_Mo_packed_17 : zprog 174 17 = [(270, .iload 8, []), (272, .iconst 2, []), (273, .iload 4, []), (275, .imul, []), (276, .iconst 2, []), (277, .isub, []), (278, .if_icmp .ge 0, [18]), (281, .aload 1, []), (282, .iload 7, []), (284, .iaload, []), (285, .ifCond .le 0, [18]), (288, .aload 3, []), (289, .iload 7, []), (291, .dup2, []), (292, .iaload, []), (293, .aload 6, []), (295, .iload 8, []), (297, .aaload, []), (298, .iload 7, []), (300, .laload, []), (301, .l2i, []), (302, .iadd, []), (303, .iastore, []), (304, .iinc 8 1, []), (307, .goto 0, [17])] := rfl
theorem pg_Mo_packed_18 : zprog 174 18 = [(310, .iinc 7 1, []), (313, .goto 0, [14])] := rfl
theorem pg_Mo_packed_19 : zprog 174 19 = [(316, .aload 3, []), (317, .areturn, [])] := rfl
theorem pg_Mo_put_0 : zprog 175 0 = [(0, .iload 1, []), (1, .istore 3, []), (2, .nop, [1])] := rfl
theorem pg_Mo_put_1 : zprog 175 1 = [(2, .iload 3, []), (3, .ifCond .le 0, [2]), (6, .aload 0, []), (7, .iload 3, []), (8, .iconst 1, []), (9, .isub, []), (10, .aaload, []), (11, .iconst 26, []), (13, .laload, []), (14, .aload 2, []), (15, .iconst 26, []), (17, .laload, []), (18, .lcmp, []), (19, .ifCond .le 0, [2]), (22, .aload 0, []), (23, .iload 3, []), (24, .aload 0, []), (25, .iload 3, []), (26, .iconst 1, []), (27, .isub, []), (28, .aaload, []), (29, .aastore, []), (30, .iinc 3 (-1), []), (33, .goto 0, [1])] := rfl
theorem pg_Mo_put_2 : zprog 175 2 = [(36, .aload 0, []), (37, .iload 3, []), (38, .aload 2, []), (39, .aastore, []), (40, .iload 1, []), (41, .iconst 1, []), (42, .iadd, []), (43, .ireturn, [])] := rfl
theorem pg_Mo_inOrder_0 : zprog 176 0 = [(0, .iconst 52, []), (2, .newarray .int, [0]), (4, .astore 1, []), (5, .iconst 52, []), (7, .newarray .int, [0]), (9, .astore 2, []), (10, .iconst 26, []), (12, .newarray .int, [0]), (14, .astore 3, []), (15, .iconst 0, []), (16, .istore 4, []), (18, .iconst 0, []), (19, .istore 5, []), (21, .nop, [1])] := rfl
theorem pg_Mo_inOrder_1 : zprog 176 1 = [(21, .iload 5, []), (23, .iconst 26, []), (25, .if_icmp .ge 0, [3]), (28, .aload 1, []), (29, .iload 5, []), (31, .aload 0, []), (32, .iload 5, []), (34, .iaload, []), (35, .iastore, []), (36, .aload 0, []), (37, .iload 5, []), (39, .iaload, []), (40, .ifCond .le 0, [2]), (43, .aload 3, []), (44, .iload 4, []), (46, .iload 5, []), (48, .iastore, []), (49, .iinc 4 1, []), (52, .nop, [2])] := rfl
theorem pg_Mo_inOrder_2 : zprog 176 2 = [(52, .iinc 5 1, []), (55, .goto 0, [1])] := rfl
theorem pg_Mo_inOrder_3 : zprog 176 3 = [(58, .iconst 26, []), (60, .istore 5, []), (62, .nop, [4])] := rfl
theorem pg_Mo_inOrder_4 : zprog 176 4 = [(62, .iload 4, []), (64, .iconst 1, []), (65, .if_icmp .le 0, [13]), (68, .iconst 1, []), (69, .istore 6, []), (71, .nop, [5])] := rfl
theorem pg_Mo_inOrder_5 : zprog 176 5 = [(71, .iload 6, []), (73, .iconst 1, []), (74, .iadd, []), (75, .iload 4, []), (77, .if_icmp .ge 0, [6]), (80, .aload 1, []), (81, .aload 3, []), (82, .iload 6, []), (84, .iconst 1, []), (85, .iadd, []), (86, .iaload, []), (87, .iaload, []), (88, .aload 1, []), (89, .aload 3, []), (90, .iload 6, []), (92, .iconst 1, []), (93, .isub, []), (94, .iaload, []), (95, .iaload, []), (96, .if_icmp .ge 0, [6]), (99, .iinc 6 1, []), (102, .goto 0, [5])] := rfl
theorem pg_Mo_inOrder_6 : zprog 176 6 = [(105, .aload 1, []), (106, .iload 5, []), (108, .aload 1, []), (109, .aload 3, []), (110, .iload 6, []), (112, .iconst 1, []), (113, .isub, []), (114, .iaload, []), (115, .iaload, []), (116, .aload 1, []), (117, .aload 3, []), (118, .iload 6, []), (120, .iaload, []), (121, .iaload, []), (122, .iadd, []), (123, .iastore, []), (124, .aload 2, []), (125, .aload 3, []), (126, .iload 6, []), (128, .iconst 1, []), (129, .isub, []), (130, .iaload, []), (131, .iload 5, []), (133, .iastore, []), (134, .aload 2, []), (135, .aload 3, []), (136, .iload 6, []), (138, .iaload, []), (139, .iload 5, []), (141, .iastore, []), (142, .iload 6, []), (144, .iconst 1, []), (145, .iadd, []), (146, .istore 7, []), (148, .nop, [7])] := rfl
theorem pg_Mo_inOrder_7 : zprog 176 7 = [(148, .iload 7, []), (150, .iload 4, []), (152, .if_icmp .ge 0, [8]), (155, .aload 3, []), (156, .iload 7, []), (158, .iconst 2, []), (159, .isub, []), (160, .aload 3, []), (161, .iload 7, []), (163, .iaload, []), (164, .iastore, []), (165, .iinc 7 1, []), (168, .goto 0, [7])] := rfl
theorem pg_Mo_inOrder_8 : zprog 176 8 = [(171, .iinc 4 (-2), []), (174, .iload 6, []), (176, .iconst 1, []), (177, .isub, []), (178, .istore 7, []), (180, .nop, [9])] := rfl
theorem pg_Mo_inOrder_9 : zprog 176 9 = [(180, .iload 7, []), (182, .ifCond .le 0, [10]), (185, .aload 1, []), (186, .aload 3, []), (187, .iload 7, []), (189, .iconst 1, []), (190, .isub, []), (191, .iaload, []), (192, .iaload, []), (193, .aload 1, []), (194, .iload 5, []), (196, .iaload, []), (197, .if_icmp .ge 0, [10]), (200, .iinc 7 (-1), []), (203, .goto 0, [9])] := rfl
theorem pg_Mo_inOrder_10 : zprog 176 10 = [(206, .iload 4, []), (208, .istore 8, []), (210, .nop, [11])] := rfl
theorem pg_Mo_inOrder_11 : zprog 176 11 = [(210, .iload 8, []), (212, .iload 7, []), (214, .if_icmp .le 0, [12]), (217, .aload 3, []), (218, .iload 8, []), (220, .aload 3, []), (221, .iload 8, []), (223, .iconst 1, []), (224, .isub, []), (225, .iaload, []), (226, .iastore, []), (227, .iinc 8 (-1), []), (230, .goto 0, [11])] := rfl
theorem pg_Mo_inOrder_12 : zprog 176 12 = [(233, .aload 3, []), (234, .iload 7, []), (236, .iload 5, []), (238, .iastore, []), (239, .iinc 4 1, []), (242, .iinc 5 1, []), (245, .goto 0, [4])] := rfl
theorem pg_Mo_inOrder_13 : zprog 176 13 = [(248, .iconst 26, []), (250, .newarray .int, [0]), (252, .astore 6, []), (254, .iconst 0, []), (255, .istore 7, []), (257, .nop, [14])] := rfl
theorem pg_Mo_inOrder_14 : zprog 176 14 = [(257, .iload 7, []), (259, .iconst 26, []), (261, .if_icmp .ge 0, [19]), (264, .aload 6, []), (266, .iload 7, []), (268, .aload 0, []), (269, .iload 7, []), (271, .iaload, []), (272, .ifCond .le 0, [15]), (275, .iconst 0, []), (276, .goto 0, [16])] := rfl
theorem pg_Mo_inOrder_15 : zprog 176 15 = [(279, .iconst (-1), []), (280, .nop, [16])] := rfl
theorem pg_Mo_inOrder_16 : zprog 176 16 = [(280, .iastore, []), (281, .aload 2, []), (282, .iload 7, []), (284, .iaload, []), (285, .istore 8, []), (287, .nop, [17])] := rfl
theorem pg_Mo_inOrder_17 : zprog 176 17 = [(287, .aload 0, []), (288, .iload 7, []), (290, .iaload, []), (291, .ifCond .le 0, [18]), (294, .iload 8, []), (296, .ifCond .le 0, [18]), (299, .aload 6, []), (301, .iload 7, []), (303, .dup2, []), (304, .iaload, []), (305, .iconst 1, []), (306, .iadd, []), (307, .iastore, []), (308, .aload 2, []), (309, .iload 8, []), (311, .iaload, []), (312, .istore 8, []), (314, .goto 0, [17])] := rfl
theorem pg_Mo_inOrder_18 : zprog 176 18 = [(317, .iinc 7 1, []), (320, .goto 0, [14])] := rfl
theorem pg_Mo_inOrder_19 : zprog 176 19 = [(323, .aload 6, []), (325, .areturn, [])] := rfl
theorem pg_Mo_wordsOf_0 : zprog 177 0 = [(0, .ldc2_w 0, [0, 0]), (1, .lstore 3, []), (2, .iconst (-1), []), (3, .istore 5, []), (5, .iconst 0, []), (6, .istore 6, []), (8, .nop, [1])] := rfl
theorem pg_Mo_wordsOf_1 : zprog 177 1 = [(8, .iload 6, []), (10, .iconst 52, []), (12, .if_icmp .gt 0, [7]), (15, .iconst 0, []), (16, .istore 7, []), (18, .nop, [2])] := rfl
theorem pg_Mo_wordsOf_2 : zprog 177 2 = [(18, .iload 7, []), (20, .aload 0, []), (21, .arraylength, []), (22, .if_icmp .ge 0, [6]), (25, .aload 0, []), (26, .iload 7, []), (28, .iaload, []), (29, .iload 6, []), (31, .if_icmp .ne 0, [5]), (34, .iload 5, []), (36, .istore 8, []), (38, .nop, [3])] := rfl
theorem pg_Mo_wordsOf_3 : zprog 177 3 = [(38, .iload 8, []), (40, .ifCond .lt 0, [4]), (43, .iload 8, []), (45, .iload 6, []), (47, .if_icmp .ge 0, [4]), (50, .lload 3, []), (51, .iload 1, []), (52, .i2l, []), (53, .lmul, []), (54, .lstore 3, []), (55, .iinc 8 1, []), (58, .goto 0, [3])] := rfl
theorem pg_Mo_wordsOf_4 : zprog 177 4 = [(61, .aload 2, []), (62, .iload 7, []), (64, .lload 3, []), (65, .lastore, []), (66, .lload 3, []), (67, .ldc2_w 0, [1, 0]), (68, .ladd, []), (69, .lstore 3, []), (70, .iload 6, []), (72, .istore 5, []), (74, .nop, [5])] := rfl
theorem pg_Mo_wordsOf_5 : zprog 177 5 = [(74, .iinc 7 1, []), (77, .goto 0, [2])] := rfl
theorem pg_Mo_wordsOf_6 : zprog 177 6 = [(80, .iinc 6 1, []), (83, .goto 0, [1])] := rfl
theorem pg_Mo_wordsOf_7 : zprog 177 7 = [(86, .aload 2, []), (87, .areturn, [])] := rfl
theorem pg_Mo_wordsInOrder_0 : zprog 178 0 = [(0, .iconst 26, []), (2, .newarray .int, [3]), (4, .astore 1, []), (5, .ldc2_w 0, [0, 0]), (6, .lstore 2, []), (7, .iconst (-1), []), (8, .istore 4, []), (10, .iconst 0, []), (11, .istore 5, []), (13, .nop, [1])] := rfl
theorem pg_Mo_wordsInOrder_1 : zprog 178 1 = [(13, .iload 5, []), (15, .iconst 26, []), (17, .if_icmp .ge 0, [7]), (20, .aload 0, []), (21, .iload 5, []), (23, .iaload, []), (24, .ifCond .lt 0, [6]), (27, .iload 4, []), (29, .istore 6, []), (31, .nop, [2])] := rfl
theorem pg_Mo_wordsInOrder_2 : zprog 178 2 = [(31, .iload 6, []), (33, .ifCond .lt 0, [3]), (36, .iload 6, []), (38, .aload 0, []), (39, .iload 5, []), (41, .iaload, []), (42, .if_icmp .ge 0, [3]), (45, .lload 2, []), (46, .ldc2_w 0, [2, 0]), (49, .lmul, []), (50, .lstore 2, []), (51, .iinc 6 1, []), (54, .goto 0, [2])] := rfl
theorem pg_Mo_wordsInOrder_3 : zprog 178 3 = [(57, .aload 0, []), (58, .iload 5, []), (60, .iaload, []), (61, .istore 6, []), (63, .nop, [4])] := rfl
theorem pg_Mo_wordsInOrder_4 : zprog 178 4 = [(63, .iload 6, []), (65, .iload 4, []), (67, .if_icmp .ge 0, [5]), (70, .lload 2, []), (71, .ldc2_w 0, [2, 0]), (74, .ldiv, []), (75, .lstore 2, []), (76, .iinc 6 1, []), (79, .goto 0, [4])] := rfl
theorem pg_Mo_wordsInOrder_5 : zprog 178 5 = [(82, .aload 1, []), (83, .iload 5, []), (85, .lload 2, []), (86, .lastore, []), (87, .lload 2, []), (88, .ldc2_w 0, [1, 0]), (89, .ladd, []), (90, .lstore 2, []), (91, .aload 0, []), (92, .iload 5, []), (94, .iaload, []), (95, .istore 4, []), (97, .nop, [6])] := rfl
theorem pg_Mo_wordsInOrder_6 : zprog 178 6 = [(97, .iinc 5 1, []), (100, .goto 0, [1])] := rfl
theorem pg_Mo_wordsInOrder_7 : zprog 178 7 = [(103, .aload 1, []), (104, .areturn, [])] := rfl
theorem pg_Mo_digit_0 : zprog 179 0 = [(0, .lload 0, []), (1, .lstore 5, []), (3, .iload 2, []), (4, .iconst 1, []), (5, .isub, []), (6, .istore 7, []), (8, .nop, [1])] := rfl
theorem pg_Mo_digit_1 : zprog 179 1 = [(8, .iload 7, []), (10, .iload 3, []), (11, .if_icmp .le 0, [2]), (14, .lload 5, []), (16, .iload 4, []), (18, .i2l, []), (19, .ldiv, []), (20, .lstore 5, []), (22, .iinc 7 (-1), []), (25, .goto 0, [1])] := rfl
theorem pg_Mo_digit_2 : zprog 179 2 = [(28, .lload 5, []), (30, .iload 4, []), (32, .i2l, []), (33, .lrem, []), (34, .l2i, []), (35, .ireturn, [])] := rfl
theorem pg_Mo_comes_0 : zprog 180 0 = [(0, .aload 0, []), (1, .getfield 0, [6, 3]), (4, .aload 0, []), (5, .getfield 0, [6, 6]), (8, .iload 1, []), (9, .castore, []), (10, .aload 0, []), (11, .getfield 0, [6, 4]), (14, .aload 0, []), (15, .getfield 0, [6, 6]), (18, .aload 2, []), (19, .aastore, []), (20, .aload 0, []), (21, .getfield 0, [6, 5]), (24, .aload 0, []), (25, .getfield 0, [6, 6]), (28, .iload 1, []), (29, .iconst 111, []), (31, .if_icmp .ne 0, [1]), (34, .aload 2, []), (35, .invokestatic 0, [178, 1]), (38, .goto 0, [4])] := rfl
theorem pg_Mo_comes_1 : zprog 180 1 = [(41, .aload 2, []), (42, .iload 1, []), (43, .iconst 116, []), (45, .if_icmp .ne 0, [2]), (48, .iconst 3, []), (49, .goto 0, [3])] := rfl
theorem pg_Mo_comes_2 : zprog 180 2 = [(52, .iconst 2, []), (53, .nop, [3])] := rfl
theorem pg_Mo_comes_3 : zprog 180 3 = [(53, .aload 2, []), (54, .arraylength, []), (55, .newarray .int, [3]), (57, .invokestatic 0, [177, 3]), (60, .nop, [4])] := rfl
theorem pg_Mo_comes_4 : zprog 180 4 = [(60, .aastore, []), (61, .aload 0, []), (62, .dup, []), (63, .getfield 0, [6, 6]), (66, .iconst 1, []), (67, .iadd, []), (68, .putfield 0, [6, 6, 0]), (71, .aload 0, []), (72, .getfield 0, [6, 6]), (75, .iconst 1, []), (76, .isub, []), (77, .ireturn, [])] := rfl
theorem pg_Mo_least_0 : zprog 181 0 = [(0, .aload 0, []), (1, .aload 0, []), (2, .getfield 0, [6, 0]), (5, .invokestatic 0, [168, 1]), (8, .ifCond .le 0, [1]), (11, .iconst 1, []), (12, .goto 0, [2])] := rfl
theorem pg_Mo_least_1 : zprog 181 1 = [(15, .iconst 0, []), (16, .nop, [2])] := rfl
theorem pg_Mo_least_2 : zprog 181 2 = [(16, .iconst 1, []), (17, .invokevirtual 0, [157, 3, 6]), (20, .ifCond .ne 0, [5]), (23, .aload 0, []), (24, .aload 0, []), (25, .getfield 0, [6, 6]), (28, .iconst 12, []), (30, .if_icmp .ge 0, [3]), (33, .iconst 1, []), (34, .goto 0, [4])] := rfl
theorem pg_Mo_least_3 : zprog 181 3 = [(37, .iconst 0, []), (38, .nop, [4])] := rfl
theorem pg_Mo_least_4 : zprog 181 4 = [(38, .iconst 2, []), (39, .invokevirtual 0, [157, 3, 6]), (42, .ifCond .eq 0, [6]), (45, .nop, [5])] := rfl
theorem pg_Mo_least_5 : zprog 181 5 = [(45, .iconst 0, []), (46, .goto 0, [7])] := rfl
theorem pg_Mo_least_6 : zprog 181 6 = [(49, .aload 0, []), (50, .iconst 104, []), (52, .aload 0, []), (53, .aload 0, []), (54, .getfield 0, [6, 0]), (57, .iconst 2, []), (58, .iconst 26, []), (60, .newarray .int, [0]), (62, .invokevirtual 0, [172, 4, 6]), (65, .invokevirtual 0, [180, 3, 6]), (68, .nop, [7])] := rfl
theorem pg_Mo_least_7 : zprog 181 7 = [(68, .ireturn, [])] := rfl
theorem pg_Mo_isRoom_0 : zprog 182 0 = [(0, .iload 1, []), (1, .iconst 5, []), (2, .if_icmp .ge 0, [1]), (5, .iload 0, []), (6, .iconst 1, []), (7, .iload 1, []), (8, .ishl, []), (9, .if_icmp .gt 0, [2]), (12, .nop, [1])] := rfl
theorem pg_Mo_isRoom_1 : zprog 182 1 = [(12, .iconst 1, []), (13, .goto 0, [3])] := rfl
theorem pg_Mo_isRoom_2 : zprog 182 2 = [(16, .iconst 0, []), (17, .nop, [3])] := rfl
theorem pg_Mo_isRoom_3 : zprog 182 3 = [(17, .ireturn, [2])] := rfl
theorem pg_Mo_bounded_0 : zprog 183 0 = [(0, .aload 0, []), (1, .iload 1, []), (2, .iconst 1, []), (3, .iconst 25, []), (5, .invokestatic 0, [158, 3]), (8, .iconst 1, []), (9, .invokevirtual 0, [157, 3, 6]), (12, .ifCond .ne 0, [5]), (15, .aload 0, []), (16, .aload 0, []), (17, .getfield 0, [6, 0]), (20, .invokestatic 0, [168, 1]), (23, .ifCond .le 0, [1]), (26, .iconst 1, []), (27, .goto 0, [2])] := rfl
theorem pg_Mo_bounded_1 : zprog 183 1 = [(30, .iconst 0, []), (31, .nop, [2])] := rfl
theorem pg_Mo_bounded_2 : zprog 183 2 = [(31, .iconst 2, []), (32, .invokevirtual 0, [157, 3, 6]), (35, .ifCond .ne 0, [5]), (38, .aload 0, []), (39, .aload 0, []), (40, .getfield 0, [6, 0]), (43, .invokestatic 0, [168, 1]), (46, .iload 1, []), (47, .invokestatic 0, [182, 2]), (50, .iconst 3, []), (51, .invokevirtual 0, [157, 3, 6]), (54, .ifCond .ne 0, [5]), (57, .aload 0, []), (58, .aload 0, []), (59, .getfield 0, [6, 6]), (62, .iconst 12, []), (64, .if_icmp .ge 0, [3]), (67, .iconst 1, []), (68, .goto 0, [4])] := rfl
theorem pg_Mo_bounded_3 : zprog 183 3 = [(71, .iconst 0, []), (72, .nop, [4])] := rfl
theorem pg_Mo_bounded_4 : zprog 183 4 = [(72, .iconst 4, []), (73, .invokevirtual 0, [157, 3, 6]), (76, .ifCond .eq 0, [6]), (79, .nop, [5])] := rfl
theorem pg_Mo_bounded_5 : zprog 183 5 = [(79, .iconst 0, []), (80, .ireturn, [])] := rfl
theorem pg_Mo_bounded_6 : zprog 183 6 = [(81, .aload 0, []), (82, .iconst 98, []), (84, .aload 0, []), (85, .aload 0, []), (86, .getfield 0, [6, 0]), (89, .iload 1, []), (90, .iconst 26, []), (92, .newarray .int, [0]), (94, .invokevirtual 0, [174, 4, 6]), (97, .invokevirtual 0, [180, 3, 6]), (100, .ireturn, [])] := rfl
theorem pg_Mo_ordered_0 : zprog 184 0 = [(0, .aload 0, []), (1, .aload 0, []), (2, .getfield 0, [6, 0]), (5, .invokestatic 0, [168, 1]), (8, .ifCond .le 0, [1]), (11, .iconst 1, []), (12, .goto 0, [2])] := rfl
theorem pg_Mo_ordered_1 : zprog 184 1 = [(15, .iconst 0, []), (16, .nop, [2])] := rfl
theorem pg_Mo_ordered_2 : zprog 184 2 = [(16, .iconst 1, []), (17, .invokevirtual 0, [157, 3, 6]), (20, .ifCond .ne 0, [5]), (23, .aload 0, []), (24, .aload 0, []), (25, .getfield 0, [6, 6]), (28, .iconst 12, []), (30, .if_icmp .ge 0, [3]), (33, .iconst 1, []), (34, .goto 0, [4])] := rfl
theorem pg_Mo_ordered_3 : zprog 184 3 = [(37, .iconst 0, []), (38, .nop, [4])] := rfl
theorem pg_Mo_ordered_4 : zprog 184 4 = [(38, .iconst 2, []), (39, .invokevirtual 0, [157, 3, 6]), (42, .ifCond .eq 0, [6]), (45, .nop, [5])] := rfl
theorem pg_Mo_ordered_5 : zprog 184 5 = [(45, .iconst 0, []), (46, .goto 0, [7])] := rfl
theorem pg_Mo_ordered_6 : zprog 184 6 = [(49, .aload 0, []), (50, .iconst 111, []), (52, .aload 0, []), (53, .getfield 0, [6, 0]), (56, .invokestatic 0, [176, 1]), (59, .invokevirtual 0, [180, 3, 6]), (62, .nop, [7])] := rfl
theorem pg_Mo_ordered_7 : zprog 184 7 = [(62, .ireturn, [])] := rfl
theorem pg_Mo_triple_0 : zprog 185 0 = [(0, .aload 0, []), (1, .aload 0, []), (2, .getfield 0, [6, 0]), (5, .invokestatic 0, [168, 1]), (8, .ifCond .le 0, [1]), (11, .iconst 1, []), (12, .goto 0, [2])] := rfl
theorem pg_Mo_triple_1 : zprog 185 1 = [(15, .iconst 0, []), (16, .nop, [2])] := rfl
theorem pg_Mo_triple_2 : zprog 185 2 = [(16, .iconst 1, []), (17, .invokevirtual 0, [157, 3, 6]), (20, .ifCond .ne 0, [5]), (23, .aload 0, []), (24, .aload 0, []), (25, .getfield 0, [6, 6]), (28, .iconst 12, []), (30, .if_icmp .ge 0, [3]), (33, .iconst 1, []), (34, .goto 0, [4])] := rfl
theorem pg_Mo_triple_3 : zprog 185 3 = [(37, .iconst 0, []), (38, .nop, [4])] := rfl
theorem pg_Mo_triple_4 : zprog 185 4 = [(38, .iconst 2, []), (39, .invokevirtual 0, [157, 3, 6]), (42, .ifCond .eq 0, [6]), (45, .nop, [5])] := rfl
theorem pg_Mo_triple_5 : zprog 185 5 = [(45, .iconst 0, []), (46, .goto 0, [7])] := rfl
theorem pg_Mo_triple_6 : zprog 185 6 = [(49, .aload 0, []), (50, .iconst 116, []), (52, .aload 0, []), (53, .aload 0, []), (54, .getfield 0, [6, 0]), (57, .iconst 3, []), (58, .iconst 26, []), (60, .newarray .int, [0]), (62, .invokevirtual 0, [172, 4, 6]), (65, .invokevirtual 0, [180, 3, 6]), (68, .nop, [7])] := rfl
theorem pg_Mo_triple_7 : zprog 185 7 = [(68, .ireturn, [])] := rfl
theorem pg_Mo_sumOf_0 : zprog 186 0 = [(0, .ldc2_w 0, [0, 0]), (1, .lstore 3, []), (2, .aload 0, []), (3, .astore 5, []), (5, .aload 5, []), (7, .arraylength, []), (8, .istore 6, []), (10, .iconst 0, []), (11, .istore 7, []), (13, .nop, [1])] := rfl
theorem pg_Mo_sumOf_1 : zprog 186 1 = [(13, .iload 7, []), (15, .iload 6, []), (17, .if_icmp .ge 0, [6]), (20, .aload 5, []), (22, .iload 7, []), (24, .iaload, []), (25, .istore 8, []), (27, .iload 8, []), (29, .ifCond .ge 0, [2]), (32, .ldc2_w 0, [0, 0]), (33, .goto 0, [3])] := rfl
theorem pg_Mo_sumOf_2 : zprog 186 2 = [(36, .ldc2_w 0, [1, 0]), (37, .nop, [3])] := rfl
theorem pg_Mo_sumOf_3 : zprog 186 3 = [(37, .lstore 9, []), (39, .iload 8, []), (41, .istore 11, []), (43, .nop, [4])] := rfl
theorem pg_Mo_sumOf_4 : zprog 186 4 = [(43, .iload 11, []), (45, .iconst 25, []), (47, .if_icmp .ge 0, [5]), (50, .iload 8, []), (52, .ifCond .lt 0, [5]), (55, .lload 9, []), (57, .lload 1, []), (58, .lmul, []), (59, .lstore 9, []), (61, .iinc 11 1, []), (64, .goto 0, [4])] := rfl
theorem pg_Mo_sumOf_5 : zprog 186 5 = [(67, .lload 3, []), (68, .lload 9, []), (70, .ladd, []), (71, .lstore 3, []), (72, .iinc 7 1, []), (75, .goto 0, [1])] := rfl
theorem pg_Mo_sumOf_6 : zprog 186 6 = [(78, .lload 3, []), (79, .lreturn, [])] := rfl
theorem pg_Mo_byLengths_0 : zprog 187 0 = [(0, .aload 0, []), (1, .aload 0, []), (2, .getfield 0, [6, 2]), (5, .iconst 26, []), (7, .if_icmp .gt 0, [1]), (10, .iconst 1, []), (11, .goto 0, [2])] := rfl
theorem pg_Mo_byLengths_1 : zprog 187 1 = [(14, .iconst 0, []), (15, .nop, [2])] := rfl
theorem pg_Mo_byLengths_2 : zprog 187 2 = [(15, .iconst 1, []), (16, .invokevirtual 0, [157, 3, 6]), (19, .ifCond .eq 0, [3]), (22, .iconst 0, []), (23, .ireturn, [])] := rfl
theorem pg_Mo_byLengths_3 : zprog 187 3 = [(24, .iconst 26, []), (26, .newarray .int, [0]), (28, .astore 1, []), (29, .iconst 0, []), (30, .istore 2, []), (31, .iconst 0, []), (32, .istore 3, []), (33, .nop, [4])] := rfl
theorem pg_Mo_byLengths_4 : zprog 187 4 = [(33, .iload 3, []), (34, .iconst 26, []), (36, .if_icmp .ge 0, [9]), (39, .aload 1, []), (40, .iload 3, []), (41, .iload 3, []), (42, .aload 0, []), (43, .getfield 0, [6, 2]), (46, .if_icmp .ge 0, [5]), (49, .aload 0, []), (50, .getfield 0, [6, 1]), (53, .iload 3, []), (54, .iaload, []), (55, .ifCond .le 0, [5]), (58, .aload 0, []), (59, .getfield 0, [6, 1]), (62, .iload 3, []), (63, .iaload, []), (64, .goto 0, [6])] := rfl
theorem pg_Mo_byLengths_5 : zprog 187 5 = [(67, .iconst (-1), []), (68, .nop, [6])] := rfl
theorem pg_Mo_byLengths_6 : zprog 187 6 = [(68, .iastore, []), (69, .iload 2, []), (70, .aload 1, []), (71, .iload 3, []), (72, .iaload, []), (73, .ifCond .le 0, [7]), (76, .iconst 1, []), (77, .goto 0, [8])] := rfl
theorem pg_Mo_byLengths_7 : zprog 187 7 = [(80, .iconst 0, []), (81, .nop, [8])] := rfl
theorem pg_Mo_byLengths_8 : zprog 187 8 = [(81, .iadd, []), (82, .istore 2, []), (83, .iinc 3 1, []), (86, .goto 0, [4])] := rfl
theorem pg_Mo_byLengths_9 : zprog 187 9 = [(89, .aload 0, []), (90, .iload 2, []), (91, .ifCond .le 0, [10]), (94, .iconst 1, []), (95, .goto 0, [11])] := rfl
theorem pg_Mo_byLengths_10 : zprog 187 10 = [(98, .iconst 0, []), (99, .nop, [11])] := rfl
theorem pg_Mo_byLengths_11 : zprog 187 11 = [(99, .iconst 2, []), (100, .invokevirtual 0, [157, 3, 6]), (103, .ifCond .ne 0, [16]), (106, .aload 0, []), (107, .aload 1, []), (108, .ldc2_w 0, [2, 0]), (111, .invokestatic 0, [186, 2]), (114, .ldc2_w 0, [33554432, 0]), (117, .lcmp, []), (118, .ifCond .gt 0, [12]), (121, .iconst 1, []), (122, .goto 0, [13])] := rfl
theorem pg_Mo_byLengths_12 : zprog 187 12 = [(125, .iconst 0, []), (126, .nop, [13])] := rfl
theorem pg_Mo_byLengths_13 : zprog 187 13 = [(126, .iconst 3, []), (127, .invokevirtual 0, [157, 3, 6]), (130, .ifCond .ne 0, [16]), (133, .aload 0, []), (134, .aload 0, []), (135, .getfield 0, [6, 6]), (138, .iconst 12, []), (140, .if_icmp .ge 0, [14]), (143, .iconst 1, []), (144, .goto 0, [15])] := rfl
theorem pg_Mo_byLengths_14 : zprog 187 14 = [(147, .iconst 0, []), (148, .nop, [15])] := rfl
theorem pg_Mo_byLengths_15 : zprog 187 15 = [(148, .iconst 4, []), (149, .invokevirtual 0, [157, 3, 6]), (152, .ifCond .eq 0, [17]), (155, .nop, [16])] := rfl
theorem pg_Mo_byLengths_16 : zprog 187 16 = [(155, .iconst 0, []), (156, .ireturn, [])] := rfl
theorem pg_Mo_byLengths_17 : zprog 187 17 = [(157, .aload 0, []), (158, .iconst 107, []), (160, .aload 1, []), (161, .invokevirtual 0, [180, 3, 6]), (164, .ireturn, [])] := rfl
theorem pg_Mo_forget_0 : zprog 188 0 = [(0, .aload 0, []), (1, .iconst 0, []), (2, .putfield 0, [6, 10, 0]), (5, .aload 0, []), (6, .getfield 0, [6, 6]), (9, .istore 1, []), (10, .aload 0, []), (11, .iconst 0, []), (12, .putfield 0, [6, 6, 0]), (15, .iload 1, []), (16, .ireturn, [])] := rfl
theorem pg_Mo_codes_0 : zprog 189 0 = [(0, .aload 0, []), (1, .iconst 0, []), (2, .putfield 0, [6, 10, 0]), (5, .aload 0, []), (6, .getfield 0, [6, 6]), (9, .ireturn, [])] := rfl
theorem pg_Mo_kindOf_0 : zprog 190 0 = [(0, .aload 0, []), (1, .aload 0, []), (2, .iload 1, []), (3, .invokevirtual 0, [160, 2, 6]), (6, .iconst 1, []), (7, .invokevirtual 0, [157, 3, 6]), (10, .ifCond .eq 0, [1]), (13, .iconst 104, []), (15, .goto 0, [2])] := rfl
theorem pg_Mo_kindOf_1 : zprog 190 1 = [(18, .aload 0, []), (19, .getfield 0, [6, 3]), (22, .iload 1, []), (23, .caload, []), (24, .nop, [2])] := rfl
theorem pg_Mo_kindOf_2 : zprog 190 2 = [(24, .ireturn, [1])] := rfl
theorem pg_Mo_signs_0 : zprog 191 0 = [(0, .aload 0, []), (1, .aload 0, []), (2, .iload 1, []), (3, .invokevirtual 0, [160, 2, 6]), (6, .iconst 1, []), (7, .invokevirtual 0, [157, 3, 6]), (10, .ifCond .eq 0, [1]), (13, .iconst 0, []), (14, .ireturn, [])] := rfl
theorem pg_Mo_signs_1 : zprog 191 1 = [(15, .iconst 0, []), (16, .istore 2, []), (17, .aload 0, []), (18, .getfield 0, [6, 4]), (21, .iload 1, []), (22, .aaload, []), (23, .astore 3, []), (24, .aload 3, []), (25, .arraylength, []), (26, .istore 4, []), (28, .iconst 0, []), (29, .istore 5, []), (31, .nop, [2])] := rfl
theorem pg_Mo_signs_2 : zprog 191 2 = [(31, .iload 5, []), (33, .iload 4, []), (35, .if_icmp .ge 0, [5]), (38, .aload 3, []), (39, .iload 5, []), (41, .iaload, []), (42, .istore 6, []), (44, .iload 2, []), (45, .iload 6, []), (47, .ifCond .lt 0, [3]), (50, .iconst 1, []), (51, .goto 0, [4])] := rfl
theorem pg_Mo_signs_3 : zprog 191 3 = [(54, .iconst 0, []), (55, .nop, [4])] := rfl
theorem pg_Mo_signs_4 : zprog 191 4 = [(55, .iadd, []), (56, .istore 2, []), (57, .iinc 5 1, []), (60, .goto 0, [2])] := rfl
theorem pg_Mo_signs_5 : zprog 191 5 = [(63, .iload 2, []), (64, .ireturn, [])] := rfl
theorem pg_Mo_baseOf_0 : zprog 192 0 = [(0, .aload 0, []), (1, .getfield 0, [6, 3]), (4, .iload 1, []), (5, .caload, []), (6, .iconst 116, []), (8, .if_icmp .ne 0, [1]), (11, .iconst 3, []), (12, .goto 0, [2])] := rfl
theorem pg_Mo_baseOf_1 : zprog 192 1 = [(15, .iconst 2, []), (16, .nop, [2])] := rfl
theorem pg_Mo_baseOf_2 : zprog 192 2 = [(16, .ireturn, [])] := rfl
theorem pg_Mo_isAhead_0 : zprog 193 0 = [(0, .iconst 0, []), (1, .istore 4, []), (3, .nop, [1])] := rfl
theorem pg_Mo_isAhead_1 : zprog 193 1 = [(3, .iload 4, []), (5, .aload 0, []), (6, .getfield 0, [6, 4]), (9, .iload 1, []), (10, .aaload, []), (11, .iload 2, []), (12, .iaload, []), (13, .if_icmp .ge 0, [5]), (16, .iload 4, []), (18, .aload 0, []), (19, .getfield 0, [6, 4]), (22, .iload 1, []), (23, .aaload, []), (24, .iload 3, []), (25, .iaload, []), (26, .if_icmp .ge 0, [5]), (29, .aload 0, []), (30, .getfield 0, [6, 5]), (33, .iload 1, []), (34, .aaload, []), (35, .iload 2, []), (36, .laload, []), (37, .aload 0, []), (38, .getfield 0, [6, 4]), (41, .iload 1, []), (42, .aaload, []), (43, .iload 2, []), (44, .iaload, []), (45, .iload 4, []), (47, .aload 0, []), (48, .iload 1, []), (49, .invokevirtual 0, [192, 2, 6]), (52, .invokestatic 0, [179, 4]), (55, .istore 5, []), (57, .aload 0, []), (58, .getfield 0, [6, 5]), (61, .iload 1, []), (62, .aaload, []), (63, .iload 3, []), (64, .laload, []), (65, .aload 0, []), (66, .getfield 0, [6, 4]), (69, .iload 1, []), (70, .aaload, []), (71, .iload 3, []), (72, .iaload, []), (73, .iload 4, []), (75, .aload 0, []), (76, .iload 1, []), (77, .invokevirtual 0, [192, 2, 6]), (80, .invokestatic 0, [179, 4]), (83, .istore 6, []), (85, .iload 5, []), (87, .iload 6, []), (89, .if_icmp .eq 0, [4]), (92, .iload 5, []), (94, .iload 6, []), (96, .if_icmp .ge 0, [2]), (99, .iconst 1, []), (100, .goto 0, [3])] := rfl
theorem pg_Mo_isAhead_2 : zprog 193 2 = [(103, .iconst 0, []), (104, .nop, [3])] := rfl
theorem pg_Mo_isAhead_3 : zprog 193 3 = [(104, .ireturn, [2])] := rfl
theorem pg_Mo_isAhead_4 : zprog 193 4 = [(105, .iinc 4 1, []), (108, .goto 0, [1])] := rfl
theorem pg_Mo_isAhead_5 : zprog 193 5 = [(111, .aload 0, []), (112, .getfield 0, [6, 4]), (115, .iload 1, []), (116, .aaload, []), (117, .iload 2, []), (118, .iaload, []), (119, .aload 0, []), (120, .getfield 0, [6, 4]), (123, .iload 1, []), (124, .aaload, []), (125, .iload 3, []), (126, .iaload, []), (127, .if_icmp .ge 0, [6]), (130, .iconst 1, []), (131, .goto 0, [7])] := rfl
theorem pg_Mo_isAhead_6 : zprog 193 6 = [(134, .iconst 0, []), (135, .nop, [7])] := rfl
theorem pg_Mo_isAhead_7 : zprog 193 7 = [(135, .ireturn, [2])] := rfl
theorem pg_Mo_signAt_0 : zprog 194 0 = [(0, .iconst (-1), []), (1, .istore 3, []), (2, .iconst 0, []), (3, .istore 4, []), (5, .nop, [1])] := rfl
theorem pg_Mo_signAt_1 : zprog 194 1 = [(5, .iload 4, []), (7, .iconst 26, []), (9, .if_icmp .ge 0, [8]), (12, .aload 0, []), (13, .iload 1, []), (14, .invokevirtual 0, [160, 2, 6]), (17, .ifCond .eq 0, [8]), (20, .iconst 0, []), (21, .istore 5, []), (23, .iconst 0, []), (24, .istore 6, []), (26, .nop, [2])] := rfl
theorem pg_Mo_signAt_2 : zprog 194 2 = [(26, .iload 6, []), (28, .iconst 26, []), (30, .if_icmp .ge 0, [5]), (33, .iload 5, []), (35, .iload 6, []), (37, .iload 4, []), (39, .if_icmp .eq 0, [3]), (42, .aload 0, []), (43, .getfield 0, [6, 4]), (46, .iload 1, []), (47, .aaload, []), (48, .iload 4, []), (50, .iaload, []), (51, .ifCond .lt 0, [3]), (54, .aload 0, []), (55, .getfield 0, [6, 4]), (58, .iload 1, []), (59, .aaload, []), (60, .iload 6, []), (62, .iaload, []), (63, .ifCond .lt 0, [3]), (66, .aload 0, []), (67, .iload 1, []), (68, .iload 6, []), (70, .iload 4, []), (72, .invokevirtual 0, [193, 4, 6]), (75, .ifCond .eq 0, [3]), (78, .iconst 1, []), (79, .goto 0, [4])] := rfl
theorem pg_Mo_signAt_3 : zprog 194 3 = [(82, .iconst 0, []), (83, .nop, [4])] := rfl
theorem pg_Mo_signAt_4 : zprog 194 4 = [(83, .iadd, []), (84, .istore 5, []), (86, .iinc 6 1, []), (89, .goto 0, [2])] := rfl
theorem pg_Mo_signAt_5 : zprog 194 5 = [(92, .aload 0, []), (93, .getfield 0, [6, 4]), (96, .iload 1, []), (97, .aaload, []), (98, .iload 4, []), (100, .iaload, []), (101, .ifCond .lt 0, [6]), (104, .iload 5, []), (106, .iload 2, []), (107, .if_icmp .ne 0, [6]), (110, .iload 4, []), (112, .goto 0, [7])] := rfl
theorem pg_Mo_signAt_6 : zprog 194 6 = [(115, .iload 3, []), (116, .nop, [7])] := rfl
theorem pg_Mo_signAt_7 : zprog 194 7 = [(116, .istore 3, []), (117, .iinc 4 1, []), (120, .goto 0, [1])] := rfl
theorem pg_Mo_signAt_8 : zprog 194 8 = [(123, .aload 0, []), (124, .iload 3, []), (125, .ifCond .lt 0, [9]), (128, .iconst 1, []), (129, .goto 0, [10])] := rfl
theorem pg_Mo_signAt_9 : zprog 194 9 = [(132, .iconst 0, []), (133, .nop, [10])] := rfl
theorem pg_Mo_signAt_10 : zprog 194 10 = [(133, .iconst 1, []), (134, .invokevirtual 0, [157, 3, 6]), (137, .ifCond .eq 0, [11]), (140, .iconst 97, []), (142, .goto 0, [12])] := rfl
theorem pg_Mo_signAt_11 : zprog 194 11 = [(145, .iconst 97, []), (147, .iload 3, []), (148, .iadd, []), (149, .i2c, []), (150, .nop, [12])] := rfl
theorem pg_Mo_signAt_12 : zprog 194 12 = [(150, .ireturn, [1])] := rfl
theorem pg_Mo_lacks_0 : zprog 195 0 = [(0, .aload 0, []), (1, .aload 0, []), (2, .iload 1, []), (3, .invokevirtual 0, [160, 2, 6]), (6, .iconst 1, []), (7, .invokevirtual 0, [157, 3, 6]), (10, .ifCond .ne 0, [3]), (13, .aload 0, []), (14, .iload 2, []), (15, .invokestatic 0, [159, 1]), (18, .iconst 2, []), (19, .invokevirtual 0, [157, 3, 6]), (22, .ifCond .ne 0, [3]), (25, .aload 0, []), (26, .aload 0, []), (27, .getfield 0, [6, 4]), (30, .iload 1, []), (31, .aaload, []), (32, .iload 2, []), (33, .iconst 97, []), (35, .isub, []), (36, .iaload, []), (37, .ifCond .lt 0, [1]), (40, .iconst 1, []), (41, .goto 0, [2])] := rfl
theorem pg_Mo_lacks_1 : zprog 195 1 = [(44, .iconst 0, []), (45, .nop, [2])] := rfl
theorem pg_Mo_lacks_2 : zprog 195 2 = [(45, .iconst 3, []), (46, .invokevirtual 0, [157, 3, 6]), (49, .ifCond .eq 0, [4]), (52, .nop, [3])] := rfl
theorem pg_Mo_lacks_3 : zprog 195 3 = [(52, .iconst 1, []), (53, .goto 0, [5])] := rfl
theorem pg_Mo_lacks_4 : zprog 195 4 = [(56, .iconst 0, []), (57, .nop, [5])] := rfl
theorem pg_Mo_lacks_5 : zprog 195 5 = [(57, .ireturn, [2])] := rfl
theorem pg_Mo_wordLength_0 : zprog 196 0 = [(0, .aload 0, []), (1, .iload 1, []), (2, .iload 2, []), (3, .invokevirtual 0, [195, 3, 6]), (6, .ifCond .eq 0, [1]), (9, .iconst 0, []), (10, .goto 0, [2])] := rfl
theorem pg_Mo_wordLength_1 : zprog 196 1 = [(13, .aload 0, []), (14, .getfield 0, [6, 4]), (17, .iload 1, []), (18, .aaload, []), (19, .iload 2, []), (20, .iconst 97, []), (22, .isub, []), (23, .iaload, []), (24, .nop, [2])] := rfl
theorem pg_Mo_wordLength_2 : zprog 196 2 = [(24, .ireturn, [])] := rfl
theorem pg_Mo_wordBit_0 : zprog 197 0 = [(0, .aload 0, []), (1, .iload 1, []), (2, .iload 2, []), (3, .invokevirtual 0, [195, 3, 6]), (6, .ifCond .ne 0, [1]), (9, .aload 0, []), (10, .iload 3, []), (11, .iconst 0, []), (12, .aload 0, []), (13, .getfield 0, [6, 4]), (16, .iload 1, []), (17, .aaload, []), (18, .iload 2, []), (19, .iconst 97, []), (21, .isub, []), (22, .iaload, []), (23, .iconst 1, []), (24, .isub, []), (25, .invokestatic 0, [158, 3]), (28, .iconst 3, []), (29, .invokevirtual 0, [157, 3, 6]), (32, .ifCond .eq 0, [2]), (35, .nop, [1])] := rfl
theorem pg_Mo_wordBit_1 : zprog 197 1 = [(35, .iconst 48, []), (37, .ireturn, [1])] := rfl
theorem pg_Mo_wordBit_2 : zprog 197 2 = [(38, .iconst 48, []), (40, .aload 0, []), (41, .getfield 0, [6, 5]), (44, .iload 1, []), (45, .aaload, []), (46, .iload 2, []), (47, .iconst 97, []), (49, .isub, []), (50, .laload, []), (51, .aload 0, []), (52, .getfield 0, [6, 4]), (55, .iload 1, []), (56, .aaload, []), (57, .iload 2, []), (58, .iconst 97, []), (60, .isub, []), (61, .iaload, []), (62, .iload 3, []), (63, .aload 0, []), (64, .iload 1, []), (65, .invokevirtual 0, [192, 2, 6]), (68, .invokestatic 0, [179, 4]), (71, .iadd, []), (72, .i2c, []), (73, .ireturn, [1])] := rfl
theorem pg_Mo_longest_0 : zprog 198 0 = [(0, .aload 0, []), (1, .aload 0, []), (2, .iload 1, []), (3, .invokevirtual 0, [160, 2, 6]), (6, .iconst 1, []), (7, .invokevirtual 0, [157, 3, 6]), (10, .ifCond .eq 0, [1]), (13, .iconst 0, []), (14, .ireturn, [])] := rfl
theorem pg_Mo_longest_1 : zprog 198 1 = [(15, .iconst 0, []), (16, .istore 2, []), (17, .aload 0, []), (18, .getfield 0, [6, 4]), (21, .iload 1, []), (22, .aaload, []), (23, .astore 3, []), (24, .aload 3, []), (25, .arraylength, []), (26, .istore 4, []), (28, .iconst 0, []), (29, .istore 5, []), (31, .nop, [2])] := rfl
theorem pg_Mo_longest_2 : zprog 198 2 = [(31, .iload 5, []), (33, .iload 4, []), (35, .if_icmp .ge 0, [5]), (38, .aload 3, []), (39, .iload 5, []), (41, .iaload, []), (42, .istore 6, []), (44, .iload 6, []), (46, .iload 2, []), (47, .if_icmp .le 0, [3]), (50, .iload 6, []), (52, .goto 0, [4])] := rfl
theorem pg_Mo_longest_3 : zprog 198 3 = [(55, .iload 2, []), (56, .nop, [4])] := rfl
theorem pg_Mo_longest_4 : zprog 198 4 = [(56, .istore 2, []), (57, .iinc 5 1, []), (60, .goto 0, [2])] := rfl
theorem pg_Mo_longest_5 : zprog 198 5 = [(63, .iload 2, []), (64, .ireturn, [])] := rfl
theorem pg_Mo_hasAll_0 : zprog 199 0 = [(0, .iconst 1, []), (1, .istore 2, []), (2, .iconst 0, []), (3, .istore 3, []), (4, .nop, [1])] := rfl
theorem pg_Mo_hasAll_1 : zprog 199 1 = [(4, .iload 3, []), (5, .iconst 26, []), (7, .if_icmp .ge 0, [5]), (10, .iload 2, []), (11, .ifCond .eq 0, [3]), (14, .aload 0, []), (15, .getfield 0, [6, 0]), (18, .iload 3, []), (19, .iaload, []), (20, .ifCond .eq 0, [2]), (23, .aload 0, []), (24, .getfield 0, [6, 4]), (27, .iload 1, []), (28, .aaload, []), (29, .iload 3, []), (30, .iaload, []), (31, .ifCond .lt 0, [3]), (34, .nop, [2])] := rfl
theorem pg_Mo_hasAll_2 : zprog 199 2 = [(34, .iconst 1, []), (35, .goto 0, [4])] := rfl
theorem pg_Mo_hasAll_3 : zprog 199 3 = [(38, .iconst 0, []), (39, .nop, [4])] := rfl
theorem pg_Mo_hasAll_4 : zprog 199 4 = [(39, .istore 2, []), (40, .iinc 3 1, []), (43, .goto 0, [1])] := rfl
theorem pg_Mo_hasAll_5 : zprog 199 5 = [(46, .iload 2, []), (47, .ireturn, [2])] := rfl
theorem pg_Mo_bits_0 : zprog 200 0 = [(0, .aload 0, []), (1, .aload 0, []), (2, .iload 1, []), (3, .invokevirtual 0, [160, 2, 6]), (6, .iconst 1, []), (7, .invokevirtual 0, [157, 3, 6]), (10, .ifCond .ne 0, [1]), (13, .aload 0, []), (14, .aload 0, []), (15, .iload 1, []), (16, .invokevirtual 0, [199, 2, 6]), (19, .iconst 2, []), (20, .invokevirtual 0, [157, 3, 6]), (23, .ifCond .eq 0, [2]), (26, .nop, [1])] := rfl
theorem pg_Mo_bits_1 : zprog 200 1 = [(26, .iconst 0, []), (27, .goto 0, [3])] := rfl
theorem pg_Mo_bits_2 : zprog 200 2 = [(30, .aload 0, []), (31, .getfield 0, [6, 0]), (34, .aload 0, []), (35, .getfield 0, [6, 4]), (38, .iload 1, []), (39, .aaload, []), (40, .invokestatic 0, [173, 2]), (43, .nop, [3])] := rfl
theorem pg_Mo_bits_3 : zprog 200 3 = [(43, .ireturn, [])] := rfl
theorem pg_Mo_sum_0 : zprog 201 0 = [(0, .aload 0, []), (1, .aload 0, []), (2, .iload 1, []), (3, .invokevirtual 0, [160, 2, 6]), (6, .iconst 1, []), (7, .invokevirtual 0, [157, 3, 6]), (10, .ifCond .eq 0, [1]), (13, .ldc2_w 0, [0, 0]), (14, .goto 0, [2])] := rfl
theorem pg_Mo_sum_1 : zprog 201 1 = [(17, .aload 0, []), (18, .getfield 0, [6, 4]), (21, .iload 1, []), (22, .aaload, []), (23, .aload 0, []), (24, .iload 1, []), (25, .invokevirtual 0, [192, 2, 6]), (28, .i2l, []), (29, .invokestatic 0, [186, 2]), (32, .nop, [2])] := rfl
theorem pg_Mo_sum_2 : zprog 201 2 = [(32, .lreturn, [])] := rfl
theorem pg_Mo_lookup_0 : zprog 202 0 = [(0, .aload 0, []), (1, .aload 0, []), (2, .iload 1, []), (3, .invokevirtual 0, [160, 2, 6]), (6, .iconst 1, []), (7, .invokevirtual 0, [157, 3, 6]), (10, .ifCond .ne 0, [7]), (13, .aload 0, []), (14, .iload 2, []), (15, .iconst 1, []), (16, .iconst 8, []), (18, .invokestatic 0, [158, 3]), (21, .ifCond .eq 0, [3]), (24, .iload 3, []), (25, .iconst 0, []), (26, .iconst 1, []), (27, .iload 2, []), (28, .iconst 1, []), (29, .iconst 8, []), (31, .invokestatic 0, [158, 3]), (34, .ifCond .eq 0, [1]), (37, .iload 2, []), (38, .goto 0, [2])] := rfl
theorem pg_Mo_lookup_1 : zprog 202 1 = [(41, .iconst 1, []), (42, .nop, [2])] := rfl
theorem pg_Mo_lookup_2 : zprog 202 2 = [(42, .ishl, []), (43, .iconst 1, []), (44, .isub, []), (45, .invokestatic 0, [158, 3]), (48, .ifCond .eq 0, [3]), (51, .iconst 1, []), (52, .goto 0, [4])] := rfl
theorem pg_Mo_lookup_3 : zprog 202 3 = [(55, .iconst 0, []), (56, .nop, [4])] := rfl
theorem pg_Mo_lookup_4 : zprog 202 4 = [(56, .iconst 2, []), (57, .invokevirtual 0, [157, 3, 6]), (60, .ifCond .ne 0, [7]), (63, .aload 0, []), (64, .aload 0, []), (65, .getfield 0, [6, 3]), (68, .iload 1, []), (69, .caload, []), (70, .iconst 116, []), (72, .if_icmp .eq 0, [5]), (75, .iconst 1, []), (76, .goto 0, [6])] := rfl
theorem pg_Mo_lookup_5 : zprog 202 5 = [(79, .iconst 0, []), (80, .nop, [6])] := rfl
theorem pg_Mo_lookup_6 : zprog 202 6 = [(80, .iconst 3, []), (81, .invokevirtual 0, [157, 3, 6]), (84, .ifCond .eq 0, [8]), (87, .nop, [7])] := rfl
theorem pg_Mo_lookup_7 : zprog 202 7 = [(87, .iconst 0, []), (88, .ireturn, [])] := rfl
theorem pg_Mo_lookup_8 : zprog 202 8 = [(89, .iconst (-2), []), (91, .istore 4, []), (93, .iconst 0, []), (94, .istore 5, []), (96, .nop, [9])] := rfl
theorem pg_Mo_lookup_9 : zprog 202 9 = [(96, .iload 5, []), (98, .iconst 26, []), (100, .if_icmp .ge 0, [19]), (103, .aload 0, []), (104, .getfield 0, [6, 4]), (107, .iload 1, []), (108, .aaload, []), (109, .iload 5, []), (111, .iaload, []), (112, .istore 6, []), (114, .iload 6, []), (116, .ifCond .lt 0, [10]), (119, .iconst 1, []), (120, .goto 0, [11])] := rfl
theorem pg_Mo_lookup_10 : zprog 202 10 = [(123, .iconst 0, []), (124, .nop, [11])] := rfl
theorem pg_Mo_lookup_11 : zprog 202 11 = [(124, .istore 7, []), (126, .iconst 0, []), (127, .istore 8, []), (129, .nop, [12])] := rfl
theorem pg_Mo_lookup_12 : zprog 202 12 = [(129, .iload 8, []), (131, .iload 6, []), (133, .if_icmp .ge 0, [15]), (136, .iload 8, []), (138, .iload 2, []), (139, .if_icmp .ge 0, [15]), (142, .iload 7, []), (144, .ifCond .eq 0, [13]), (147, .aload 0, []), (148, .getfield 0, [6, 5]), (151, .iload 1, []), (152, .aaload, []), (153, .iload 5, []), (155, .laload, []), (156, .iload 6, []), (158, .iload 8, []), (160, .iconst 2, []), (161, .invokestatic 0, [179, 4]), (164, .iload 3, []), (165, .iload 2, []), (166, .iconst 1, []), (167, .isub, []), (168, .iload 8, []), (170, .isub, []), (171, .ishr, []), (172, .iconst 1, []), (173, .iand, []), (174, .if_icmp .ne 0, [13]), (177, .iconst 1, []), (178, .goto 0, [14])] := rfl
theorem pg_Mo_lookup_13 : zprog 202 13 = [(181, .iconst 0, []), (182, .nop, [14])] := rfl
theorem pg_Mo_lookup_14 : zprog 202 14 = [(182, .istore 7, []), (184, .iinc 8 1, []), (187, .goto 0, [12])] := rfl
theorem pg_Mo_lookup_15 : zprog 202 15 = [(190, .iload 7, []), (192, .ifCond .eq 0, [16]), (195, .iload 6, []), (197, .iload 2, []), (198, .if_icmp .gt 0, [16]), (201, .iload 5, []), (203, .ireturn, [])] := rfl
theorem pg_Mo_lookup_16 : zprog 202 16 = [(204, .iload 7, []), (206, .ifCond .eq 0, [17]), (209, .iconst (-1), []), (210, .goto 0, [18])] := rfl
theorem pg_Mo_lookup_17 : zprog 202 17 = [(213, .iload 4, []), (215, .nop, [18])] := rfl
theorem pg_Mo_lookup_18 : zprog 202 18 = [(215, .istore 4, []), (217, .iinc 5 1, []), (220, .goto 0, [9])] := rfl
theorem pg_Mo_lookup_19 : zprog 202 19 = [(223, .iload 4, []), (225, .ireturn, [])] := rfl
theorem pg_Mo_leastOf_0 : zprog 203 0 = [(0, .aload 1, []), (1, .invokestatic 0, [168, 1]), (4, .ifCond .ne 0, [1]), (7, .iconst 0, []), (8, .goto 0, [2])] := rfl
theorem pg_Mo_leastOf_1 : zprog 203 1 = [(11, .aload 1, []), (12, .aload 0, []), (13, .aload 1, []), (14, .iconst 2, []), (15, .aload 0, []), (16, .getfield 0, [6, 12]), (19, .invokevirtual 0, [172, 4, 6]), (22, .invokestatic 0, [173, 2]), (25, .nop, [2])] := rfl
theorem pg_Mo_leastOf_2 : zprog 203 2 = [(25, .ireturn, [])] := rfl
theorem pg_Mo_leastBits_0 : zprog 204 0 = [(0, .aload 0, []), (1, .iconst 0, []), (2, .putfield 0, [6, 10, 0]), (5, .aload 0, []), (6, .aload 0, []), (7, .getfield 0, [6, 0]), (10, .invokevirtual 0, [203, 2, 6]), (13, .ireturn, [])] := rfl
theorem pg_Mo_boundCost_0 : zprog 205 0 = [(0, .aload 0, []), (1, .iload 1, []), (2, .iconst 1, []), (3, .iconst 25, []), (5, .invokestatic 0, [158, 3]), (8, .iconst 1, []), (9, .invokevirtual 0, [157, 3, 6]), (12, .ifCond .ne 0, [1]), (15, .aload 0, []), (16, .aload 0, []), (17, .getfield 0, [6, 0]), (20, .invokestatic 0, [168, 1]), (23, .iload 1, []), (24, .invokestatic 0, [182, 2]), (27, .iconst 2, []), (28, .invokevirtual 0, [157, 3, 6]), (31, .ifCond .eq 0, [2]), (34, .nop, [1])] := rfl
theorem pg_Mo_boundCost_1 : zprog 205 1 = [(34, .iconst 0, []), (35, .ireturn, [])] := rfl
theorem pg_Mo_boundCost_2 : zprog 205 2 = [(36, .aload 0, []), (37, .getfield 0, [6, 0]), (40, .invokestatic 0, [168, 1]), (43, .ifCond .ne 0, [3]), (46, .iconst 0, []), (47, .goto 0, [4])] := rfl
theorem pg_Mo_boundCost_3 : zprog 205 3 = [(50, .aload 0, []), (51, .getfield 0, [6, 0]), (54, .aload 0, []), (55, .aload 0, []), (56, .getfield 0, [6, 0]), (59, .iload 1, []), (60, .aload 0, []), (61, .getfield 0, [6, 12]), (64, .invokevirtual 0, [174, 4, 6]), (67, .invokestatic 0, [173, 2]), (70, .aload 0, []), (71, .aload 0, []), (72, .getfield 0, [6, 0]), (75, .invokevirtual 0, [203, 2, 6]), (78, .isub, []), (79, .nop, [4])] := rfl
theorem pg_Mo_boundCost_4 : zprog 205 4 = [(79, .ireturn, [])] := rfl
theorem pg_Mo_orderCost_0 : zprog 206 0 = [(0, .aload 0, []), (1, .iconst 0, []), (2, .putfield 0, [6, 10, 0]), (5, .aload 0, []), (6, .getfield 0, [6, 0]), (9, .invokestatic 0, [168, 1]), (12, .ifCond .ne 0, [1]), (15, .iconst 0, []), (16, .goto 0, [2])] := rfl
theorem pg_Mo_orderCost_1 : zprog 206 1 = [(19, .aload 0, []), (20, .getfield 0, [6, 0]), (23, .aload 0, []), (24, .getfield 0, [6, 0]), (27, .invokestatic 0, [176, 1]), (30, .invokestatic 0, [173, 2]), (33, .aload 0, []), (34, .aload 0, []), (35, .getfield 0, [6, 0]), (38, .invokevirtual 0, [203, 2, 6]), (41, .isub, []), (42, .nop, [2])] := rfl
theorem pg_Mo_orderCost_2 : zprog 206 2 = [(42, .ireturn, [])] := rfl
theorem pg_Mo_areAlike_0 : zprog 207 0 = [(0, .aload 0, []), (1, .getfield 0, [6, 2]), (4, .iload 1, []), (5, .isub, []), (6, .iload 3, []), (7, .if_icmp .ge 0, [1]), (10, .aload 0, []), (11, .getfield 0, [6, 2]), (14, .iload 1, []), (15, .isub, []), (16, .goto 0, [2])] := rfl
theorem pg_Mo_areAlike_1 : zprog 207 1 = [(19, .iload 3, []), (20, .nop, [2])] := rfl
theorem pg_Mo_areAlike_2 : zprog 207 2 = [(20, .istore 4, []), (22, .aload 0, []), (23, .getfield 0, [6, 2]), (26, .iload 2, []), (27, .isub, []), (28, .iload 3, []), (29, .if_icmp .ge 0, [3]), (32, .aload 0, []), (33, .getfield 0, [6, 2]), (36, .iload 2, []), (37, .isub, []), (38, .goto 0, [4])] := rfl
theorem pg_Mo_areAlike_3 : zprog 207 3 = [(41, .iload 3, []), (42, .nop, [4])] := rfl
theorem pg_Mo_areAlike_4 : zprog 207 4 = [(42, .istore 5, []), (44, .iload 4, []), (46, .iload 5, []), (48, .if_icmp .ne 0, [5]), (51, .iconst 1, []), (52, .goto 0, [6])] := rfl
theorem pg_Mo_areAlike_5 : zprog 207 5 = [(55, .iconst 0, []), (56, .nop, [6])] := rfl
theorem pg_Mo_areAlike_6 : zprog 207 6 = [(56, .istore 6, []), (58, .iconst 0, []), (59, .istore 7, []), (61, .nop, [7])] := rfl
theorem pg_Mo_areAlike_7 : zprog 207 7 = [(61, .iload 7, []), (63, .iload 4, []), (65, .if_icmp .ge 0, [10]), (68, .iload 6, []), (70, .ifCond .eq 0, [10]), (73, .aload 0, []), (74, .getfield 0, [6, 1]), (77, .iload 1, []), (78, .iload 7, []), (80, .iadd, []), (81, .iaload, []), (82, .aload 0, []), (83, .getfield 0, [6, 1]), (86, .iload 2, []), (87, .iload 7, []), (89, .iadd, []), (90, .iaload, []), (91, .if_icmp .ne 0, [8]), (94, .iconst 1, []), (95, .goto 0, [9])] := rfl
theorem pg_Mo_areAlike_8 : zprog 207 8 = [(98, .iconst 0, []), (99, .nop, [9])] := rfl
theorem pg_Mo_areAlike_9 : zprog 207 9 = [(99, .istore 6, []), (101, .iinc 7 1, []), (104, .goto 0, [7])] := rfl
theorem pg_Mo_areAlike_10 : zprog 207 10 = [(107, .iload 6, []), (109, .ireturn, [2])] := rfl
theorem pg_Mo_blockBits_0 : zprog 208 0 = [(0, .aload 0, []), (1, .iload 1, []), (2, .iconst 1, []), (3, .iconst 4, []), (4, .invokestatic 0, [158, 3]), (7, .iconst 1, []), (8, .invokevirtual 0, [157, 3, 6]), (11, .ifCond .eq 0, [1]), (14, .iconst 0, []), (15, .ireturn, [])] := rfl
theorem pg_Mo_blockBits_1 : zprog 208 1 = [(16, .iconst 120, []), (18, .newarray .int, [0]), (20, .astore 2, []), (21, .iconst 0, []), (22, .istore 3, []), (23, .nop, [2])] := rfl
theorem pg_Mo_blockBits_2 : zprog 208 2 = [(23, .iload 3, []), (24, .aload 0, []), (25, .getfield 0, [6, 2]), (28, .if_icmp .ge 0, [5]), (31, .iconst 0, []), (32, .istore 4, []), (34, .nop, [3])] := rfl
theorem pg_Mo_blockBits_3 : zprog 208 3 = [(34, .aload 0, []), (35, .iload 4, []), (37, .iload 3, []), (38, .iload 1, []), (39, .invokevirtual 0, [207, 4, 6]), (42, .ifCond .ne 0, [4]), (45, .iload 4, []), (47, .iload 1, []), (48, .iadd, []), (49, .istore 4, []), (51, .goto 0, [3])] := rfl
theorem pg_Mo_blockBits_4 : zprog 208 4 = [(54, .aload 2, []), (55, .iload 4, []), (57, .dup2, []), (58, .iaload, []), (59, .iconst 1, []), (60, .iadd, []), (61, .iastore, []), (62, .iload 3, []), (63, .iload 1, []), (64, .iadd, []), (65, .istore 3, []), (66, .goto 0, [2])] := rfl
theorem pg_Mo_blockBits_5 : zprog 208 5 = [(69, .aload 0, []), (70, .aload 2, []), (71, .invokevirtual 0, [203, 2, 6]), (74, .ireturn, [])] := rfl
theorem pg_Mo_fibonacci_0 : zprog 209 0 = [(0, .iconst 1, []), (1, .istore 1, []), (2, .iconst 1, []), (3, .istore 2, []), (4, .iconst 2, []), (5, .istore 3, []), (6, .nop, [1])] := rfl
theorem pg_Mo_fibonacci_1 : zprog 209 1 = [(6, .iload 3, []), (7, .iload 0, []), (8, .if_icmp .ge 0, [2]), (11, .iload 1, []), (12, .iload 2, []), (13, .iadd, []), (14, .istore 4, []), (16, .iload 2, []), (17, .istore 1, []), (18, .iload 4, []), (20, .istore 2, []), (21, .iinc 3 1, []), (24, .goto 0, [1])] := rfl
theorem pg_Mo_fibonacci_2 : zprog 209 2 = [(27, .iload 0, []), (28, .iconst 2, []), (29, .if_icmp .ge 0, [3]), (32, .iconst 1, []), (33, .goto 0, [4])] := rfl
theorem pg_Mo_fibonacci_3 : zprog 209 3 = [(36, .iload 2, []), (37, .nop, [4])] := rfl
theorem pg_Mo_fibonacci_4 : zprog 209 4 = [(37, .ireturn, [])] := rfl
theorem pg_Mo_fewestFor_0 : zprog 210 0 = [(0, .aload 0, []), (1, .iload 1, []), (2, .iconst 1, []), (3, .iconst 25, []), (5, .invokestatic 0, [158, 3]), (8, .iconst 1, []), (9, .invokevirtual 0, [157, 3, 6]), (12, .ifCond .eq 0, [1]), (15, .iconst 0, []), (16, .ireturn, [])] := rfl
theorem pg_Mo_fewestFor_1 : zprog 210 1 = [(17, .iconst 0, []), (18, .istore 2, []), (19, .iconst 0, []), (20, .istore 3, []), (21, .nop, [2])] := rfl
theorem pg_Mo_fewestFor_2 : zprog 210 2 = [(21, .iload 3, []), (22, .iload 1, []), (23, .if_icmp .gt 0, [3]), (26, .iload 2, []), (27, .iload 3, []), (28, .invokestatic 0, [209, 1]), (31, .iadd, []), (32, .istore 2, []), (33, .iinc 3 1, []), (36, .goto 0, [2])] := rfl
theorem pg_Mo_fewestFor_3 : zprog 210 3 = [(39, .iload 2, []), (40, .ireturn, [])] := rfl
theorem pg_Mo_countFor_0 : zprog 211 0 = [(0, .aload 0, []), (1, .iload 1, []), (2, .iconst 1, []), (3, .iconst 25, []), (5, .invokestatic 0, [158, 3]), (8, .iconst 1, []), (9, .invokevirtual 0, [157, 3, 6]), (12, .ifCond .ne 0, [1]), (15, .aload 0, []), (16, .iload 2, []), (17, .iconst 0, []), (18, .iload 1, []), (19, .invokestatic 0, [158, 3]), (22, .iconst 2, []), (23, .invokevirtual 0, [157, 3, 6]), (26, .ifCond .eq 0, [2]), (29, .nop, [1])] := rfl
theorem pg_Mo_countFor_1 : zprog 211 1 = [(29, .iconst 0, []), (30, .goto 0, [3])] := rfl
theorem pg_Mo_countFor_2 : zprog 211 2 = [(33, .iload 2, []), (34, .invokestatic 0, [209, 1]), (37, .nop, [3])] := rfl
theorem pg_Mo_countFor_3 : zprog 211 3 = [(37, .ireturn, [])] := rfl
theorem pg_Mo_savedAt_0 : zprog 212 0 = [(0, .aload 0, []), (1, .aload 0, []), (2, .iconst 0, []), (3, .aload 0, []), (4, .getfield 0, [6, 2]), (7, .invokevirtual 0, [169, 3, 6]), (10, .invokevirtual 0, [203, 2, 6]), (13, .aload 0, []), (14, .aload 0, []), (15, .iconst 0, []), (16, .iload 1, []), (17, .invokevirtual 0, [169, 3, 6]), (20, .invokevirtual 0, [203, 2, 6]), (23, .isub, []), (24, .aload 0, []), (25, .aload 0, []), (26, .iload 1, []), (27, .aload 0, []), (28, .getfield 0, [6, 2]), (31, .invokevirtual 0, [169, 3, 6]), (34, .invokevirtual 0, [203, 2, 6]), (37, .isub, []), (38, .iconst 130, []), (41, .isub, []), (42, .ireturn, [])] := rfl
theorem pg_Mo_saved_0 : zprog 213 0 = [(0, .aload 0, []), (1, .iload 1, []), (2, .iconst 0, []), (3, .aload 0, []), (4, .getfield 0, [6, 2]), (7, .invokestatic 0, [158, 3]), (10, .iconst 1, []), (11, .invokevirtual 0, [157, 3, 6]), (14, .ifCond .eq 0, [1]), (17, .iconst 0, []), (18, .goto 0, [2])] := rfl
theorem pg_Mo_saved_1 : zprog 213 1 = [(21, .aload 0, []), (22, .iload 1, []), (23, .invokevirtual 0, [212, 2, 6]), (26, .nop, [2])] := rfl
theorem pg_Mo_saved_2 : zprog 213 2 = [(26, .ireturn, [])] := rfl
theorem pg_Mo_bestCut_0 : zprog 214 0 = [(0, .aload 0, []), (1, .iconst 0, []), (2, .putfield 0, [6, 10, 0]), (5, .iconst 0, []), (6, .istore 1, []), (7, .iconst 1, []), (8, .istore 2, []), (9, .nop, [1])] := rfl
theorem pg_Mo_bestCut_1 : zprog 214 1 = [(9, .iload 2, []), (10, .aload 0, []), (11, .getfield 0, [6, 2]), (14, .if_icmp .gt 0, [4]), (17, .aload 0, []), (18, .iload 2, []), (19, .invokevirtual 0, [212, 2, 6]), (22, .aload 0, []), (23, .iload 1, []), (24, .invokevirtual 0, [212, 2, 6]), (27, .if_icmp .le 0, [2]), (30, .iload 2, []), (31, .goto 0, [3])] := rfl
theorem pg_Mo_bestCut_2 : zprog 214 2 = [(34, .iload 1, []), (35, .nop, [3])] := rfl
theorem pg_Mo_bestCut_3 : zprog 214 3 = [(35, .istore 1, []), (36, .iinc 2 1, []), (39, .goto 0, [1])] := rfl
theorem pg_Mo_bestCut_4 : zprog 214 4 = [(42, .iload 1, []), (43, .ireturn, [])] := rfl
theorem pg_Mo_putWord_0 : zprog 215 0 = [(0, .iconst 0, []), (1, .istore 5, []), (3, .nop, [1])] := rfl
theorem pg_Mo_putWord_1 : zprog 215 1 = [(3, .iload 5, []), (5, .iload 4, []), (7, .if_icmp .ge 0, [2]), (10, .aload 0, []), (11, .iload 1, []), (12, .iload 5, []), (14, .iadd, []), (15, .lload 2, []), (16, .iload 4, []), (18, .iload 5, []), (20, .iconst 2, []), (21, .invokestatic 0, [179, 4]), (24, .iastore, []), (25, .iinc 5 1, []), (28, .goto 0, [1])] := rfl
theorem pg_Mo_putWord_2 : zprog 215 2 = [(31, .iload 1, []), (32, .iload 4, []), (34, .iadd, []), (35, .ireturn, [])] := rfl
theorem pg_Mo_wordAt_0 : zprog 216 0 = [(0, .iconst 0, []), (1, .istore 5, []), (3, .nop, [1])] := rfl
theorem pg_Mo_wordAt_1 : zprog 216 1 = [(3, .iload 5, []), (5, .aload 4, []), (7, .arraylength, []), (8, .if_icmp .ge 0, [9]), (11, .aload 4, []), (13, .iload 5, []), (15, .iaload, []), (16, .ifCond .lt 0, [2]), (19, .iload 2, []), (20, .aload 4, []), (22, .iload 5, []), (24, .iaload, []), (25, .iadd, []), (26, .iload 1, []), (27, .if_icmp .gt 0, [2]), (30, .iconst 1, []), (31, .goto 0, [3])] := rfl
theorem pg_Mo_wordAt_2 : zprog 216 2 = [(34, .iconst 0, []), (35, .nop, [3])] := rfl
theorem pg_Mo_wordAt_3 : zprog 216 3 = [(35, .istore 6, []), (37, .iconst 0, []), (38, .istore 7, []), (40, .nop, [4])] := rfl
theorem pg_Mo_wordAt_4 : zprog 216 4 = [(40, .iload 7, []), (42, .aload 4, []), (44, .iload 5, []), (46, .iaload, []), (47, .if_icmp .ge 0, [7]), (50, .iload 6, []), (52, .ifCond .eq 0, [7]), (55, .aload 0, []), (56, .iload 2, []), (57, .iload 7, []), (59, .iadd, []), (60, .iaload, []), (61, .aload 3, []), (62, .iload 5, []), (64, .laload, []), (65, .aload 4, []), (67, .iload 5, []), (69, .iaload, []), (70, .iload 7, []), (72, .iconst 2, []), (73, .invokestatic 0, [179, 4]), (76, .if_icmp .ne 0, [5]), (79, .iconst 1, []), (80, .goto 0, [6])] := rfl
theorem pg_Mo_wordAt_5 : zprog 216 5 = [(83, .iconst 0, []), (84, .nop, [6])] := rfl
theorem pg_Mo_wordAt_6 : zprog 216 6 = [(84, .istore 6, []), (86, .iinc 7 1, []), (89, .goto 0, [4])] := rfl
theorem pg_Mo_wordAt_7 : zprog 216 7 = [(92, .iload 6, []), (94, .ifCond .eq 0, [8]), (97, .iload 5, []), (99, .ireturn, [])] := rfl
theorem pg_Mo_wordAt_8 : zprog 216 8 = [(100, .iinc 5 1, []), (103, .goto 0, [1])] := rfl
theorem pg_Mo_wordAt_9 : zprog 216 9 = [(106, .iconst (-1), []), (107, .ireturn, [])] := rfl
theorem pg_Mo_hasTyped_0 : zprog 217 0 = [(0, .iconst 1, []), (1, .istore 2, []), (2, .iconst 0, []), (3, .istore 3, []), (4, .nop, [1])] := rfl
theorem pg_Mo_hasTyped_1 : zprog 217 1 = [(4, .iload 3, []), (5, .aload 0, []), (6, .getfield 0, [6, 2]), (9, .if_icmp .ge 0, [4]), (12, .iload 2, []), (13, .ifCond .eq 0, [2]), (16, .aload 0, []), (17, .getfield 0, [6, 4]), (20, .iload 1, []), (21, .aaload, []), (22, .aload 0, []), (23, .getfield 0, [6, 1]), (26, .iload 3, []), (27, .iaload, []), (28, .iaload, []), (29, .ifCond .lt 0, [2]), (32, .iconst 1, []), (33, .goto 0, [3])] := rfl
theorem pg_Mo_hasTyped_2 : zprog 217 2 = [(36, .iconst 0, []), (37, .nop, [3])] := rfl
theorem pg_Mo_hasTyped_3 : zprog 217 3 = [(37, .istore 2, []), (38, .iinc 3 1, []), (41, .goto 0, [1])] := rfl
theorem pg_Mo_hasTyped_4 : zprog 217 4 = [(44, .iload 2, []), (45, .ireturn, [2])] := rfl
theorem pg_Mo_write_0 : zprog 218 0 = [(0, .aload 0, []), (1, .aload 0, []), (2, .iload 1, []), (3, .invokevirtual 0, [160, 2, 6]), (6, .iconst 1, []), (7, .invokevirtual 0, [157, 3, 6]), (10, .ifCond .ne 0, [3]), (13, .aload 0, []), (14, .aload 0, []), (15, .getfield 0, [6, 3]), (18, .iload 1, []), (19, .caload, []), (20, .iconst 116, []), (22, .if_icmp .eq 0, [1]), (25, .iconst 1, []), (26, .goto 0, [2])] := rfl
theorem pg_Mo_write_1 : zprog 218 1 = [(29, .iconst 0, []), (30, .nop, [2])] := rfl
theorem pg_Mo_write_2 : zprog 218 2 = [(30, .iconst 2, []), (31, .invokevirtual 0, [157, 3, 6]), (34, .ifCond .ne 0, [3]), (37, .aload 0, []), (38, .aload 0, []), (39, .iload 1, []), (40, .invokevirtual 0, [217, 2, 6]), (43, .iconst 3, []), (44, .invokevirtual 0, [157, 3, 6]), (47, .ifCond .eq 0, [4]), (50, .nop, [3])] := rfl
theorem pg_Mo_write_3 : zprog 218 3 = [(50, .iconst 0, []), (51, .ireturn, [])] := rfl
theorem pg_Mo_write_4 : zprog 218 4 = [(52, .aload 0, []), (53, .iconst 0, []), (54, .putfield 0, [6, 8, 0]), (57, .iconst 0, []), (58, .istore 2, []), (59, .nop, [5])] := rfl
theorem pg_Mo_write_5 : zprog 218 5 = [(59, .iload 2, []), (60, .aload 0, []), (61, .getfield 0, [6, 2]), (64, .if_icmp .ge 0, [6]), (67, .aload 0, []), (68, .aload 0, []), (69, .getfield 0, [6, 7]), (72, .aload 0, []), (73, .getfield 0, [6, 8]), (76, .aload 0, []), (77, .getfield 0, [6, 5]), (80, .iload 1, []), (81, .aaload, []), (82, .aload 0, []), (83, .getfield 0, [6, 1]), (86, .iload 2, []), (87, .iaload, []), (88, .laload, []), (89, .aload 0, []), (90, .getfield 0, [6, 4]), (93, .iload 1, []), (94, .aaload, []), (95, .aload 0, []), (96, .getfield 0, [6, 1]), (99, .iload 2, []), (100, .iaload, []), (101, .iaload, []), (102, .invokestatic 0, [215, 4]), (105, .putfield 0, [6, 8, 0]), (108, .iinc 2 1, []), (111, .goto 0, [5])] := rfl
theorem pg_Mo_write_6 : zprog 218 6 = [(114, .aload 0, []), (115, .aload 0, []), (116, .getfield 0, [6, 2]), (119, .putfield 0, [6, 9, 0]), (122, .aload 0, []), (123, .getfield 0, [6, 8]), (126, .ireturn, [])] := rfl
theorem pg_Mo_read_0 : zprog 219 0 = [(0, .aload 0, []), (1, .aload 0, []), (2, .iload 1, []), (3, .invokevirtual 0, [160, 2, 6]), (6, .iconst 1, []), (7, .invokevirtual 0, [157, 3, 6]), (10, .ifCond .ne 0, [3]), (13, .aload 0, []), (14, .aload 0, []), (15, .getfield 0, [6, 3]), (18, .iload 1, []), (19, .caload, []), (20, .iconst 116, []), (22, .if_icmp .eq 0, [1]), (25, .iconst 1, []), (26, .goto 0, [2])] := rfl
theorem pg_Mo_read_1 : zprog 219 1 = [(29, .iconst 0, []), (30, .nop, [2])] := rfl
theorem pg_Mo_read_2 : zprog 219 2 = [(30, .iconst 2, []), (31, .invokevirtual 0, [157, 3, 6]), (34, .ifCond .eq 0, [4]), (37, .nop, [3])] := rfl
theorem pg_Mo_read_3 : zprog 219 3 = [(37, .iconst 0, []), (38, .ireturn, [])] := rfl
theorem pg_Mo_read_4 : zprog 219 4 = [(39, .aload 0, []), (40, .iconst 0, []), (41, .putfield 0, [6, 2, 0]), (44, .iconst 0, []), (45, .istore 2, []), (46, .iconst 0, []), (47, .istore 3, []), (48, .nop, [5])] := rfl
theorem pg_Mo_read_5 : zprog 219 5 = [(48, .aload 0, []), (49, .getfield 0, [6, 2]), (52, .aload 0, []), (53, .getfield 0, [6, 9]), (56, .if_icmp .ge 0, [6]), (59, .iload 3, []), (60, .ifCond .lt 0, [6]), (63, .aload 0, []), (64, .getfield 0, [6, 7]), (67, .aload 0, []), (68, .getfield 0, [6, 8]), (71, .iload 2, []), (72, .aload 0, []), (73, .getfield 0, [6, 5]), (76, .iload 1, []), (77, .aaload, []), (78, .aload 0, []), (79, .getfield 0, [6, 4]), (82, .iload 1, []), (83, .aaload, []), (84, .invokestatic 0, [216, 5]), (87, .istore 3, []), (88, .iload 3, []), (89, .ifCond .lt 0, [5]), (92, .iload 2, []), (93, .aload 0, []), (94, .getfield 0, [6, 4]), (97, .iload 1, []), (98, .aaload, []), (99, .iload 3, []), (100, .iaload, []), (101, .iadd, []), (102, .istore 2, []), (103, .aload 0, []), (104, .getfield 0, [6, 1]), (107, .aload 0, []), (108, .getfield 0, [6, 2]), (111, .iload 3, []), (112, .iastore, []), (113, .aload 0, []), (114, .dup, []), (115, .getfield 0, [6, 2]), (118, .iconst 1, []), (119, .iadd, []), (120, .putfield 0, [6, 2, 0]), (123, .goto 0, [5])] := rfl
theorem pg_Mo_read_6 : zprog 219 6 = [(126, .aload 0, []), (127, .getfield 0, [6, 2]), (130, .ireturn, [])] := rfl
theorem pg_Mo_grows_0 : zprog 220 0 = [(0, .aload 0, []), (1, .getfield 0, [6, 13]), (4, .iload 1, []), (5, .dup2, []), (6, .iaload, []), (7, .iconst 1, []), (8, .iadd, []), (9, .iastore, []), (10, .iconst 0, []), (11, .istore 2, []), (12, .aload 0, []), (13, .getfield 0, [6, 13]), (16, .astore 3, []), (17, .aload 3, []), (18, .arraylength, []), (19, .istore 4, []), (21, .iconst 0, []), (22, .istore 5, []), (24, .nop, [1])] := rfl
theorem pg_Mo_grows_1 : zprog 220 1 = [(24, .iload 5, []), (26, .iload 4, []), (28, .if_icmp .ge 0, [2]), (31, .aload 3, []), (32, .iload 5, []), (34, .iaload, []), (35, .istore 6, []), (37, .iload 2, []), (38, .iload 6, []), (40, .iadd, []), (41, .istore 2, []), (42, .iinc 5 1, []), (45, .goto 0, [1])] := rfl
theorem pg_Mo_grows_2 : zprog 220 2 = [(48, .iconst 0, []), (49, .istore 3, []), (50, .nop, [3])] := rfl
theorem pg_Mo_grows_3 : zprog 220 3 = [(50, .iload 3, []), (51, .iconst 26, []), (53, .if_icmp .gt 0, [4]), (56, .iload 2, []), (57, .iconst 40, []), (59, .if_icmp .le 0, [4]), (62, .aload 0, []), (63, .getfield 0, [6, 13]), (66, .iload 3, []), (67, .aload 0, []), (68, .getfield 0, [6, 13]), (71, .iload 3, []), (72, .iaload, []), (73, .iconst 1, []), (74, .iadd, []), (75, .iconst 2, []), (76, .idiv, []), (77, .iastore, []), (78, .iinc 3 1, []), (81, .goto 0, [3])] := rfl
theorem pg_Mo_grows_4 : zprog 220 4 = [(84, .return_, [])] := rfl
theorem pg_Mo_begins_0 : zprog 221 0 = [(0, .iconst 0, []), (1, .istore 1, []), (2, .nop, [1])] := rfl
theorem pg_Mo_begins_1 : zprog 221 1 = [(2, .iload 1, []), (3, .iconst 26, []), (5, .if_icmp .ge 0, [2]), (8, .aload 0, []), (9, .getfield 0, [6, 13]), (12, .iload 1, []), (13, .iconst 0, []), (14, .iastore, []), (15, .iinc 1 1, []), (18, .goto 0, [1])] := rfl
theorem pg_Mo_begins_2 : zprog 221 2 = [(21, .aload 0, []), (22, .getfield 0, [6, 13]), (25, .iconst 26, []), (27, .iconst 1, []), (28, .iastore, []), (29, .return_, [])] := rfl
theorem pg_Mo_grown_0 : zprog 222 0 = [(0, .aload 0, []), (1, .invokevirtual 0, [221, 1, 6]), (4, .iconst 0, []), (5, .istore 4, []), (7, .iconst 0, []), (8, .istore 5, []), (10, .nop, [1])] := rfl
theorem pg_Mo_grown_1 : zprog 222 1 = [(10, .iload 5, []), (12, .iload 2, []), (13, .if_icmp .ge 0, [5]), (16, .aload 0, []), (17, .aload 0, []), (18, .getfield 0, [6, 13]), (21, .iconst 2, []), (22, .aload 0, []), (23, .getfield 0, [6, 14]), (26, .invokevirtual 0, [172, 4, 6]), (29, .astore 6, []), (31, .aload 6, []), (33, .iconst 2, []), (34, .aload 0, []), (35, .getfield 0, [6, 15]), (38, .invokestatic 0, [177, 3]), (41, .astore 7, []), (43, .aload 0, []), (44, .getfield 0, [6, 13]), (47, .aload 1, []), (48, .iload 5, []), (50, .iaload, []), (51, .iaload, []), (52, .ifCond .le 0, [2]), (55, .aload 1, []), (56, .iload 5, []), (58, .iaload, []), (59, .goto 0, [3])] := rfl
theorem pg_Mo_grown_2 : zprog 222 2 = [(62, .iconst 26, []), (64, .nop, [3])] := rfl
theorem pg_Mo_grown_3 : zprog 222 3 = [(64, .istore 8, []), (66, .aload 3, []), (67, .iload 4, []), (69, .aload 7, []), (71, .iload 8, []), (73, .laload, []), (74, .aload 6, []), (76, .iload 8, []), (78, .iaload, []), (79, .invokestatic 0, [215, 4]), (82, .istore 4, []), (84, .iload 8, []), (86, .iconst 26, []), (88, .if_icmp .ne 0, [4]), (91, .aload 3, []), (92, .iload 4, []), (94, .aload 1, []), (95, .iload 5, []), (97, .iaload, []), (98, .i2l, []), (99, .iconst 5, []), (100, .invokestatic 0, [215, 4]), (103, .istore 4, []), (105, .nop, [4])] := rfl
theorem pg_Mo_grown_4 : zprog 222 4 = [(105, .aload 0, []), (106, .aload 1, []), (107, .iload 5, []), (109, .iaload, []), (110, .invokevirtual 0, [220, 2, 6]), (113, .iinc 5 1, []), (116, .goto 0, [1])] := rfl
theorem pg_Mo_grown_5 : zprog 222 5 = [(119, .iload 4, []), (121, .ireturn, [])] := rfl
theorem pg_Mo_ungrown_0 : zprog 223 0 = [(0, .aload 0, []), (1, .invokevirtual 0, [221, 1, 6]), (4, .iconst 0, []), (5, .istore 5, []), (7, .iconst 0, []), (8, .istore 6, []), (10, .nop, [1])] := rfl
theorem pg_Mo_ungrown_1 : zprog 223 1 = [(10, .iload 6, []), (12, .iload 3, []), (13, .if_icmp .ge 0, [9]), (16, .aload 0, []), (17, .aload 0, []), (18, .getfield 0, [6, 13]), (21, .iconst 2, []), (22, .aload 0, []), (23, .getfield 0, [6, 14]), (26, .invokevirtual 0, [172, 4, 6]), (29, .astore 7, []), (31, .aload 1, []), (32, .iload 2, []), (33, .iload 5, []), (35, .aload 7, []), (37, .iconst 2, []), (38, .aload 0, []), (39, .getfield 0, [6, 15]), (42, .invokestatic 0, [177, 3]), (45, .aload 7, []), (47, .invokestatic 0, [216, 5]), (50, .istore 8, []), (52, .iload 8, []), (54, .ifCond .ge 0, [2]), (57, .iload 6, []), (59, .ireturn, [])] := rfl
theorem pg_Mo_ungrown_2 : zprog 223 2 = [(60, .iload 5, []), (62, .aload 7, []), (64, .iload 8, []), (66, .iaload, []), (67, .iadd, []), (68, .istore 5, []), (70, .iload 8, []), (72, .iconst 26, []), (74, .if_icmp .ne 0, [8]), (77, .iconst 0, []), (78, .istore 9, []), (80, .iconst 0, []), (81, .istore 10, []), (83, .nop, [3])] := rfl
theorem pg_Mo_ungrown_3 : zprog 223 3 = [(83, .iload 10, []), (85, .iconst 5, []), (86, .if_icmp .ge 0, [6]), (89, .iload 5, []), (91, .iload 10, []), (93, .iadd, []), (94, .iload 2, []), (95, .if_icmp .ge 0, [4]), (98, .iconst 2, []), (99, .iload 9, []), (101, .imul, []), (102, .aload 1, []), (103, .iload 5, []), (105, .iload 10, []), (107, .iadd, []), (108, .iaload, []), (109, .iadd, []), (110, .goto 0, [5])] := rfl
theorem pg_Mo_ungrown_4 : zprog 223 4 = [(113, .iconst 99, []), (115, .nop, [5])] := rfl
theorem pg_Mo_ungrown_5 : zprog 223 5 = [(115, .istore 9, []), (117, .iinc 10 1, []), (120, .goto 0, [3])] := rfl
theorem pg_Mo_ungrown_6 : zprog 223 6 = [(123, .iload 9, []), (125, .iconst 26, []), (127, .if_icmp .lt 0, [7]), (130, .iload 6, []), (132, .ireturn, [])] := rfl
theorem pg_Mo_ungrown_7 : zprog 223 7 = [(133, .iinc 5 5, []), (136, .iload 9, []), (138, .istore 8, []), (140, .nop, [8])] := rfl
theorem pg_Mo_ungrown_8 : zprog 223 8 = [(140, .aload 4, []), (142, .iload 6, []), (144, .iload 8, []), (146, .iastore, []), (147, .iinc 6 1, []), (150, .aload 0, []), (151, .iload 8, []), (153, .invokevirtual 0, [220, 2, 6]), (156, .goto 0, [1])] := rfl
theorem pg_Mo_ungrown_9 : zprog 223 9 = [(159, .iload 6, []), (161, .ireturn, [])] := rfl
theorem pg_Mo_writeGrowing_0 : zprog 224 0 = [(0, .aload 0, []), (1, .iconst 0, []), (2, .putfield 0, [6, 10, 0]), (5, .aload 0, []), (6, .aload 0, []), (7, .aload 0, []), (8, .getfield 0, [6, 1]), (11, .aload 0, []), (12, .getfield 0, [6, 2]), (15, .aload 0, []), (16, .getfield 0, [6, 7]), (19, .invokevirtual 0, [222, 4, 6]), (22, .putfield 0, [6, 8, 0]), (25, .aload 0, []), (26, .aload 0, []), (27, .getfield 0, [6, 2]), (30, .putfield 0, [6, 9, 0]), (33, .aload 0, []), (34, .getfield 0, [6, 8]), (37, .ireturn, [])] := rfl
theorem pg_Mo_readGrowing_0 : zprog 225 0 = [(0, .aload 0, []), (1, .iconst 0, []), (2, .putfield 0, [6, 10, 0]), (5, .aload 0, []), (6, .aload 0, []), (7, .aload 0, []), (8, .getfield 0, [6, 7]), (11, .aload 0, []), (12, .getfield 0, [6, 8]), (15, .aload 0, []), (16, .getfield 0, [6, 9]), (19, .aload 0, []), (20, .getfield 0, [6, 1]), (23, .invokevirtual 0, [223, 5, 6]), (26, .putfield 0, [6, 2, 0]), (29, .aload 0, []), (30, .getfield 0, [6, 2]), (33, .ireturn, [])] := rfl
theorem pg_Mo_streamBits_0 : zprog 226 0 = [(0, .aload 0, []), (1, .iconst 0, []), (2, .putfield 0, [6, 10, 0]), (5, .aload 0, []), (6, .getfield 0, [6, 8]), (9, .ireturn, [])] := rfl
theorem pg_Mo_written_0 : zprog 227 0 = [(0, .aload 0, []), (1, .iconst 0, []), (2, .putfield 0, [6, 10, 0]), (5, .aload 0, []), (6, .getfield 0, [6, 9]), (9, .ireturn, [])] := rfl
theorem pg_Mo_bitAt_0 : zprog 228 0 = [(0, .aload 0, []), (1, .iload 1, []), (2, .iconst 0, []), (3, .aload 0, []), (4, .getfield 0, [6, 8]), (7, .iconst 1, []), (8, .isub, []), (9, .invokestatic 0, [158, 3]), (12, .iconst 1, []), (13, .invokevirtual 0, [157, 3, 6]), (16, .ifCond .eq 0, [1]), (19, .iconst 0, []), (20, .goto 0, [2])] := rfl
theorem pg_Mo_bitAt_1 : zprog 228 1 = [(23, .aload 0, []), (24, .getfield 0, [6, 7]), (27, .iload 1, []), (28, .iaload, []), (29, .nop, [2])] := rfl
theorem pg_Mo_bitAt_2 : zprog 228 2 = [(29, .ireturn, [])] := rfl
theorem pg_Mo_turn_0 : zprog 229 0 = [(0, .aload 0, []), (1, .iload 1, []), (2, .iconst 0, []), (3, .aload 0, []), (4, .getfield 0, [6, 8]), (7, .iconst 1, []), (8, .isub, []), (9, .invokestatic 0, [158, 3]), (12, .iconst 1, []), (13, .invokevirtual 0, [157, 3, 6]), (16, .ifCond .eq 0, [1]), (19, .iconst 0, []), (20, .ireturn, [])] := rfl
theorem pg_Mo_turn_1 : zprog 229 1 = [(21, .aload 0, []), (22, .getfield 0, [6, 7]), (25, .iload 1, []), (26, .iconst 1, []), (27, .aload 0, []), (28, .getfield 0, [6, 7]), (31, .iload 1, []), (32, .iaload, []), (33, .isub, []), (34, .iastore, []), (35, .aload 0, []), (36, .getfield 0, [6, 7]), (39, .iload 1, []), (40, .iaload, []), (41, .ireturn, [])] := rfl
theorem pg_Mo_byteAt_0 : zprog 230 0 = [(0, .aload 0, []), (1, .iload 1, []), (2, .iconst 0, []), (3, .aload 0, []), (4, .getfield 0, [6, 8]), (7, .iconst 7, []), (9, .iadd, []), (10, .iconst 8, []), (12, .idiv, []), (13, .iconst 1, []), (14, .isub, []), (15, .invokestatic 0, [158, 3]), (18, .iconst 1, []), (19, .invokevirtual 0, [157, 3, 6]), (22, .ifCond .eq 0, [1]), (25, .iconst 0, []), (26, .ireturn, [])] := rfl
theorem pg_Mo_byteAt_1 : zprog 230 1 = [(27, .iconst 0, []), (28, .istore 2, []), (29, .iconst 8, []), (31, .iload 1, []), (32, .imul, []), (33, .istore 3, []), (34, .nop, [2])] := rfl
theorem pg_Mo_byteAt_2 : zprog 230 2 = [(34, .iload 3, []), (35, .iconst 8, []), (37, .iload 1, []), (38, .imul, []), (39, .iconst 8, []), (41, .iadd, []), (42, .if_icmp .ge 0, [5]), (45, .iconst 2, []), (46, .iload 2, []), (47, .imul, []), (48, .iload 3, []), (49, .aload 0, []), (50, .getfield 0, [6, 8]), (53, .if_icmp .ge 0, [3]), (56, .aload 0, []), (57, .getfield 0, [6, 7]), (60, .iload 3, []), (61, .iaload, []), (62, .goto 0, [4])] := rfl
theorem pg_Mo_byteAt_3 : zprog 230 3 = [(65, .iconst 0, []), (66, .nop, [4])] := rfl
theorem pg_Mo_byteAt_4 : zprog 230 4 = [(66, .iadd, []), (67, .istore 2, []), (68, .iinc 3 1, []), (71, .goto 0, [2])] := rfl
theorem pg_Mo_byteAt_5 : zprog 230 5 = [(74, .iload 2, []), (75, .ireturn, [])] := rfl
theorem pg_Mo_ends_0 : zprog 231 0 = [(0, .iconst 0, []), (1, .istore 3, []), (2, .nop, [1])] := rfl
theorem pg_Mo_ends_1 : zprog 231 1 = [(2, .iload 3, []), (3, .iconst 4200, []), (6, .if_icmp .gt 0, [2]), (9, .aload 2, []), (10, .iload 3, []), (11, .iconst 0, []), (12, .bastore, []), (13, .iinc 3 1, []), (16, .goto 0, [1])] := rfl
theorem pg_Mo_ends_2 : zprog 231 2 = [(19, .iconst 0, []), (20, .istore 3, []), (21, .aload 0, []), (22, .getfield 0, [6, 7]), (25, .aload 0, []), (26, .getfield 0, [6, 8]), (29, .iconst 0, []), (30, .aload 0, []), (31, .getfield 0, [6, 5]), (34, .iload 1, []), (35, .aaload, []), (36, .aload 0, []), (37, .getfield 0, [6, 4]), (40, .iload 1, []), (41, .aaload, []), (42, .invokestatic 0, [216, 5]), (45, .istore 4, []), (47, .nop, [3])] := rfl
theorem pg_Mo_ends_3 : zprog 231 3 = [(47, .iload 4, []), (49, .ifCond .lt 0, [4]), (52, .iload 3, []), (53, .aload 0, []), (54, .getfield 0, [6, 4]), (57, .iload 1, []), (58, .aaload, []), (59, .iload 4, []), (61, .iaload, []), (62, .iadd, []), (63, .istore 3, []), (64, .aload 2, []), (65, .iload 3, []), (66, .iconst 1, []), (67, .bastore, []), (68, .aload 0, []), (69, .getfield 0, [6, 7]), (72, .aload 0, []), (73, .getfield 0, [6, 8]), (76, .iload 3, []), (77, .aload 0, []), (78, .getfield 0, [6, 5]), (81, .iload 1, []), (82, .aaload, []), (83, .aload 0, []), (84, .getfield 0, [6, 4]), (87, .iload 1, []), (88, .aaload, []), (89, .invokestatic 0, [216, 5]), (92, .istore 4, []), (94, .goto 0, [3])] := rfl
theorem pg_Mo_ends_4 : zprog 231 4 = [(97, .aload 2, []), (98, .areturn, [])] := rfl
theorem pg_Mo_isSteady_0 : zprog 232 0 = [(0, .aload 0, []), (1, .getfield 0, [6, 3]), (4, .iload 1, []), (5, .caload, []), (6, .iconst 116, []), (8, .if_icmp .eq 0, [1]), (11, .iconst 1, []), (12, .goto 0, [2])] := rfl
theorem pg_Mo_isSteady_1 : zprog 232 1 = [(15, .iconst 0, []), (16, .nop, [2])] := rfl
theorem pg_Mo_isSteady_2 : zprog 232 2 = [(16, .istore 2, []), (17, .aload 0, []), (18, .getfield 0, [6, 4]), (21, .iload 1, []), (22, .aaload, []), (23, .astore 3, []), (24, .aload 3, []), (25, .arraylength, []), (26, .istore 4, []), (28, .iconst 0, []), (29, .istore 5, []), (31, .nop, [3])] := rfl
theorem pg_Mo_isSteady_3 : zprog 232 3 = [(31, .iload 5, []), (33, .iload 4, []), (35, .if_icmp .ge 0, [6]), (38, .aload 3, []), (39, .iload 5, []), (41, .iaload, []), (42, .istore 6, []), (44, .iload 2, []), (45, .ifCond .eq 0, [4]), (48, .iload 6, []), (50, .ifCond .eq 0, [4]), (53, .iconst 1, []), (54, .goto 0, [5])] := rfl
theorem pg_Mo_isSteady_4 : zprog 232 4 = [(57, .iconst 0, []), (58, .nop, [5])] := rfl
theorem pg_Mo_isSteady_5 : zprog 232 5 = [(58, .istore 2, []), (59, .iinc 5 1, []), (62, .goto 0, [3])] := rfl
theorem pg_Mo_isSteady_6 : zprog 232 6 = [(65, .iload 2, []), (66, .ireturn, [2])] := rfl
theorem pg_Mo_stepAt_0 : zprog 233 0 = [(0, .aload 0, []), (1, .getfield 0, [6, 7]), (4, .iload 2, []), (5, .iconst 1, []), (6, .aload 0, []), (7, .getfield 0, [6, 7]), (10, .iload 2, []), (11, .iaload, []), (12, .isub, []), (13, .iastore, []), (14, .aload 0, []), (15, .iload 1, []), (16, .aload 0, []), (17, .getfield 0, [6, 20]), (20, .invokevirtual 0, [231, 3, 6]), (23, .astore 4, []), (25, .aload 0, []), (26, .getfield 0, [6, 7]), (29, .iload 2, []), (30, .iconst 1, []), (31, .aload 0, []), (32, .getfield 0, [6, 7]), (35, .iload 2, []), (36, .iaload, []), (37, .isub, []), (38, .iastore, []), (39, .iload 2, []), (40, .iconst 1, []), (41, .iadd, []), (42, .istore 5, []), (44, .nop, [1])] := rfl
theorem pg_Mo_stepAt_1 : zprog 233 1 = [(44, .iload 5, []), (46, .aload 0, []), (47, .getfield 0, [6, 8]), (50, .if_icmp .gt 0, [3]), (53, .aload 3, []), (54, .iload 5, []), (56, .baload, []), (57, .ifCond .eq 0, [2]), (60, .aload 4, []), (62, .iload 5, []), (64, .baload, []), (65, .ifCond .eq 0, [2]), (68, .iload 5, []), (70, .ireturn, [])] := rfl
theorem pg_Mo_stepAt_2 : zprog 233 2 = [(71, .iinc 5 1, []), (74, .goto 0, [1])] := rfl
theorem pg_Mo_stepAt_3 : zprog 233 3 = [(77, .iconst (-1), []), (78, .ireturn, [])] := rfl
theorem pg_Mo_inStep_0 : zprog 234 0 = [(0, .aload 0, []), (1, .aload 0, []), (2, .iload 1, []), (3, .invokevirtual 0, [160, 2, 6]), (6, .ifCond .eq 0, [1]), (9, .iload 2, []), (10, .iconst 0, []), (11, .aload 0, []), (12, .getfield 0, [6, 8]), (15, .iconst 1, []), (16, .isub, []), (17, .invokestatic 0, [158, 3]), (20, .ifCond .eq 0, [1]), (23, .iconst 1, []), (24, .goto 0, [2])] := rfl
theorem pg_Mo_inStep_1 : zprog 234 1 = [(27, .iconst 0, []), (28, .nop, [2])] := rfl
theorem pg_Mo_inStep_2 : zprog 234 2 = [(28, .iconst 1, []), (29, .invokevirtual 0, [157, 3, 6]), (32, .ifCond .ne 0, [3]), (35, .aload 0, []), (36, .aload 0, []), (37, .iload 1, []), (38, .invokevirtual 0, [232, 2, 6]), (41, .iconst 2, []), (42, .invokevirtual 0, [157, 3, 6]), (45, .ifCond .eq 0, [4]), (48, .nop, [3])] := rfl
theorem pg_Mo_inStep_3 : zprog 234 3 = [(48, .iconst 0, []), (49, .ireturn, [])] := rfl
theorem pg_Mo_inStep_4 : zprog 234 4 = [(50, .aload 0, []), (51, .iload 1, []), (52, .iload 2, []), (53, .aload 0, []), (54, .iload 1, []), (55, .aload 0, []), (56, .getfield 0, [6, 19]), (59, .invokevirtual 0, [231, 3, 6]), (62, .invokevirtual 0, [233, 4, 6]), (65, .ireturn, [])] := rfl
theorem pg_Mo_lost_0 : zprog 235 0 = [(0, .aload 0, []), (1, .aload 0, []), (2, .iload 1, []), (3, .invokevirtual 0, [160, 2, 6]), (6, .ifCond .eq 0, [1]), (9, .iload 2, []), (10, .iconst 0, []), (11, .aload 0, []), (12, .getfield 0, [6, 8]), (15, .iconst 1, []), (16, .isub, []), (17, .invokestatic 0, [158, 3]), (20, .ifCond .eq 0, [1]), (23, .iconst 1, []), (24, .goto 0, [2])] := rfl
theorem pg_Mo_lost_1 : zprog 235 1 = [(27, .iconst 0, []), (28, .nop, [2])] := rfl
theorem pg_Mo_lost_2 : zprog 235 2 = [(28, .iconst 1, []), (29, .invokevirtual 0, [157, 3, 6]), (32, .ifCond .ne 0, [3]), (35, .aload 0, []), (36, .aload 0, []), (37, .iload 1, []), (38, .invokevirtual 0, [232, 2, 6]), (41, .iconst 2, []), (42, .invokevirtual 0, [157, 3, 6]), (45, .ifCond .eq 0, [4]), (48, .nop, [3])] := rfl
theorem pg_Mo_lost_3 : zprog 235 3 = [(48, .iconst 0, []), (49, .ireturn, [])] := rfl
theorem pg_Mo_lost_4 : zprog 235 4 = [(50, .aload 0, []), (51, .iload 1, []), (52, .aload 0, []), (53, .getfield 0, [6, 19]), (56, .invokevirtual 0, [231, 3, 6]), (59, .astore 3, []), (60, .iconst 0, []), (61, .istore 4, []), (63, .iload 2, []), (64, .istore 5, []), (66, .nop, [5])] := rfl
theorem pg_Mo_lost_5 : zprog 235 5 = [(66, .iload 5, []), (68, .aload 0, []), (69, .getfield 0, [6, 8]), (72, .if_icmp .ge 0, [8]), (75, .iload 5, []), (77, .iload 2, []), (78, .iconst 32, []), (80, .iadd, []), (81, .if_icmp .ge 0, [8]), (84, .iload 4, []), (86, .aload 0, []), (87, .iload 1, []), (88, .iload 5, []), (90, .aload 3, []), (91, .invokevirtual 0, [233, 4, 6]), (94, .ifCond .ge 0, [6]), (97, .iconst 1, []), (98, .goto 0, [7])] := rfl
theorem pg_Mo_lost_6 : zprog 235 6 = [(101, .iconst 0, []), (102, .nop, [7])] := rfl
theorem pg_Mo_lost_7 : zprog 235 7 = [(102, .iadd, []), (103, .istore 4, []), (105, .iinc 5 1, []), (108, .goto 0, [5])] := rfl
theorem pg_Mo_lost_8 : zprog 235 8 = [(111, .iload 4, []), (113, .ireturn, [])] := rfl
theorem pg_Mo_goes_0 : zprog 236 0 = [(0, .iconst 26, []), (2, .newarray .int, [0]), (4, .astore 3, []), (5, .iconst 0, []), (6, .istore 4, []), (8, .nop, [1])] := rfl
theorem pg_Mo_goes_1 : zprog 236 1 = [(8, .iload 4, []), (10, .iconst 26, []), (12, .if_icmp .ge 0, [2]), (15, .aload 3, []), (16, .iload 4, []), (18, .iload 4, []), (20, .iastore, []), (21, .iinc 4 1, []), (24, .goto 0, [1])] := rfl
theorem pg_Mo_goes_2 : zprog 236 2 = [(27, .iconst 0, []), (28, .istore 4, []), (30, .nop, [3])] := rfl
theorem pg_Mo_goes_3 : zprog 236 3 = [(30, .iload 4, []), (32, .iload 1, []), (33, .if_icmp .ge 0, [12]), (36, .iconst 0, []), (37, .istore 5, []), (39, .nop, [4])] := rfl
theorem pg_Mo_goes_4 : zprog 236 4 = [(39, .iload 2, []), (40, .ifCond .eq 0, [5]), (43, .iload 5, []), (45, .aload 0, []), (46, .iload 4, []), (48, .iaload, []), (49, .if_icmp .eq 0, [7]), (52, .goto 0, [6])] := rfl
theorem pg_Mo_goes_5 : zprog 236 5 = [(55, .aload 3, []), (56, .iload 5, []), (58, .iaload, []), (59, .aload 0, []), (60, .iload 4, []), (62, .iaload, []), (63, .if_icmp .eq 0, [7]), (66, .nop, [6])] := rfl
theorem pg_Mo_goes_6 : zprog 236 6 = [(66, .iinc 5 1, []), (69, .goto 0, [4])] := rfl
theorem pg_Mo_goes_7 : zprog 236 7 = [(72, .aload 3, []), (73, .iload 5, []), (75, .iaload, []), (76, .istore 6, []), (78, .aload 0, []), (79, .iload 4, []), (81, .iload 2, []), (82, .ifCond .eq 0, [8]), (85, .iload 6, []), (87, .goto 0, [9])] := rfl
theorem pg_Mo_goes_8 : zprog 236 8 = [(90, .iload 5, []), (92, .nop, [9])] := rfl
theorem pg_Mo_goes_9 : zprog 236 9 = [(92, .iastore, []), (93, .iload 5, []), (95, .istore 7, []), (97, .nop, [10])] := rfl
theorem pg_Mo_goes_10 : zprog 236 10 = [(97, .iload 7, []), (99, .ifCond .le 0, [11]), (102, .aload 3, []), (103, .iload 7, []), (105, .aload 3, []), (106, .iload 7, []), (108, .iconst 1, []), (109, .isub, []), (110, .iaload, []), (111, .iastore, []), (112, .iinc 7 (-1), []), (115, .goto 0, [10])] := rfl
theorem pg_Mo_goes_11 : zprog 236 11 = [(118, .aload 3, []), (119, .iconst 0, []), (120, .iload 6, []), (122, .iastore, []), (123, .iinc 4 1, []), (126, .goto 0, [3])] := rfl
theorem pg_Mo_goes_12 : zprog 236 12 = [(129, .return_, [])] := rfl
theorem pg_Mo_moves_0 : zprog 237 0 = [(0, .aload 0, []), (1, .iconst 0, []), (2, .putfield 0, [6, 10, 0]), (5, .aload 0, []), (6, .getfield 0, [6, 1]), (9, .aload 0, []), (10, .getfield 0, [6, 2]), (13, .iconst 0, []), (14, .invokestatic 0, [236, 3]), (17, .iconst 0, []), (18, .istore 1, []), (19, .iconst 0, []), (20, .istore 2, []), (21, .nop, [1])] := rfl
theorem pg_Mo_moves_1 : zprog 237 1 = [(21, .iload 2, []), (22, .aload 0, []), (23, .getfield 0, [6, 2]), (26, .if_icmp .ge 0, [4]), (29, .iload 1, []), (30, .aload 0, []), (31, .getfield 0, [6, 1]), (34, .iload 2, []), (35, .iaload, []), (36, .ifCond .ne 0, [2]), (39, .iconst 1, []), (40, .goto 0, [3])] := rfl
theorem pg_Mo_moves_2 : zprog 237 2 = [(43, .iconst 0, []), (44, .nop, [3])] := rfl
theorem pg_Mo_moves_3 : zprog 237 3 = [(44, .iadd, []), (45, .istore 1, []), (46, .iinc 2 1, []), (49, .goto 0, [1])] := rfl
theorem pg_Mo_moves_4 : zprog 237 4 = [(52, .iload 1, []), (53, .ireturn, [])] := rfl
theorem pg_Mo_unmoves_0 : zprog 238 0 = [(0, .aload 0, []), (1, .iconst 0, []), (2, .putfield 0, [6, 10, 0]), (5, .aload 0, []), (6, .getfield 0, [6, 1]), (9, .aload 0, []), (10, .getfield 0, [6, 2]), (13, .iconst 1, []), (14, .invokestatic 0, [236, 3]), (17, .iconst 0, []), (18, .istore 1, []), (19, .iconst 0, []), (20, .istore 2, []), (21, .nop, [1])] := rfl
theorem pg_Mo_unmoves_1 : zprog 238 1 = [(21, .iload 2, []), (22, .aload 0, []), (23, .getfield 0, [6, 2]), (26, .if_icmp .ge 0, [5]), (29, .iload 1, []), (30, .iload 2, []), (31, .ifCond .eq 0, [2]), (34, .aload 0, []), (35, .getfield 0, [6, 1]), (38, .iload 2, []), (39, .iaload, []), (40, .aload 0, []), (41, .getfield 0, [6, 1]), (44, .iload 2, []), (45, .iconst 1, []), (46, .isub, []), (47, .iaload, []), (48, .if_icmp .eq 0, [3]), (51, .nop, [2])] := rfl
theorem pg_Mo_unmoves_2 : zprog 238 2 = [(51, .iconst 1, []), (52, .goto 0, [4])] := rfl
theorem pg_Mo_unmoves_3 : zprog 238 3 = [(55, .iconst 0, []), (56, .nop, [4])] := rfl
theorem pg_Mo_unmoves_4 : zprog 238 4 = [(56, .iadd, []), (57, .istore 1, []), (58, .iinc 2 1, []), (61, .goto 0, [1])] := rfl
theorem pg_Mo_unmoves_5 : zprog 238 5 = [(64, .iload 1, []), (65, .ireturn, [])] := rfl
theorem pg_Mo_runs_0 : zprog 239 0 = [(0, .iconst 240, []), (3, .newarray .int, [0]), (5, .astore 1, []), (6, .iconst 0, []), (7, .istore 2, []), (8, .iconst 0, []), (9, .istore 3, []), (10, .nop, [1])] := rfl
theorem pg_Mo_runs_1 : zprog 239 1 = [(10, .iload 3, []), (11, .aload 0, []), (12, .getfield 0, [6, 2]), (15, .if_icmp .ge 0, [4]), (18, .iload 3, []), (19, .ifCond .le 0, [2]), (22, .aload 0, []), (23, .getfield 0, [6, 1]), (26, .iload 3, []), (27, .iaload, []), (28, .aload 0, []), (29, .getfield 0, [6, 1]), (32, .iload 3, []), (33, .iconst 1, []), (34, .isub, []), (35, .iaload, []), (36, .if_icmp .ne 0, [2]), (39, .aload 1, []), (40, .iload 2, []), (41, .iconst 1, []), (42, .isub, []), (43, .iaload, []), (44, .iconst 25, []), (46, .if_icmp .ge 0, [2]), (49, .aload 1, []), (50, .iload 2, []), (51, .iconst 1, []), (52, .isub, []), (53, .dup2, []), (54, .iaload, []), (55, .iconst 1, []), (56, .iadd, []), (57, .iastore, []), (58, .goto 0, [3])] := rfl
theorem pg_Mo_runs_2 : zprog 239 2 = [(61, .aload 1, []), (62, .iload 2, []), (63, .aload 0, []), (64, .getfield 0, [6, 1]), (67, .iload 3, []), (68, .iaload, []), (69, .iastore, []), (70, .aload 1, []), (71, .iload 2, []), (72, .iconst 1, []), (73, .iadd, []), (74, .iconst 0, []), (75, .iastore, []), (76, .iinc 2 2, []), (79, .nop, [3])] := rfl
theorem pg_Mo_runs_3 : zprog 239 3 = [(79, .iinc 3 1, []), (82, .goto 0, [1])] := rfl
theorem pg_Mo_runs_4 : zprog 239 4 = [(85, .aload 0, []), (86, .iload 2, []), (87, .iconst 120, []), (89, .if_icmp .gt 0, [5]), (92, .iconst 1, []), (93, .goto 0, [6])] := rfl
theorem pg_Mo_runs_5 : zprog 239 5 = [(96, .iconst 0, []), (97, .nop, [6])] := rfl
theorem pg_Mo_runs_6 : zprog 239 6 = [(97, .iconst 1, []), (98, .invokevirtual 0, [157, 3, 6]), (101, .ifCond .eq 0, [7]), (104, .iconst 0, []), (105, .goto 0, [8])] := rfl
theorem pg_Mo_runs_7 : zprog 239 7 = [(108, .aload 0, []), (109, .aload 1, []), (110, .iload 2, []), (111, .invokevirtual 0, [240, 3, 6]), (114, .nop, [8])] := rfl
theorem pg_Mo_runs_8 : zprog 239 8 = [(114, .ireturn, [])] := rfl
theorem pg_Mo_becomes_0 : zprog 240 0 = [(0, .iconst 0, []), (1, .istore 3, []), (2, .nop, [1])] := rfl
theorem pg_Mo_becomes_1 : zprog 240 1 = [(2, .iload 3, []), (3, .iload 2, []), (4, .if_icmp .ge 0, [2]), (7, .aload 0, []), (8, .getfield 0, [6, 1]), (11, .iload 3, []), (12, .aload 1, []), (13, .iload 3, []), (14, .iaload, []), (15, .iastore, []), (16, .iinc 3 1, []), (19, .goto 0, [1])] := rfl
theorem pg_Mo_becomes_2 : zprog 240 2 = [(22, .aload 0, []), (23, .iload 2, []), (24, .putfield 0, [6, 2, 0]), (27, .iload 2, []), (28, .ireturn, [])] := rfl
theorem pg_Mo_unruns_0 : zprog 241 0 = [(0, .aload 0, []), (1, .aload 0, []), (2, .getfield 0, [6, 2]), (5, .iconst 2, []), (6, .irem, []), (7, .ifCond .ne 0, [1]), (10, .iconst 1, []), (11, .goto 0, [2])] := rfl
theorem pg_Mo_unruns_1 : zprog 241 1 = [(14, .iconst 0, []), (15, .nop, [2])] := rfl
theorem pg_Mo_unruns_2 : zprog 241 2 = [(15, .iconst 1, []), (16, .invokevirtual 0, [157, 3, 6]), (19, .ifCond .eq 0, [3]), (22, .iconst 0, []), (23, .ireturn, [])] := rfl
theorem pg_Mo_unruns_3 : zprog 241 3 = [(24, .iconst 3120, []), (27, .newarray .int, [0]), (29, .astore 1, []), (30, .iconst 0, []), (31, .istore 2, []), (32, .iconst 0, []), (33, .istore 3, []), (34, .nop, [4])] := rfl
theorem pg_Mo_unruns_4 : zprog 241 4 = [(34, .iload 3, []), (35, .aload 0, []), (36, .getfield 0, [6, 2]), (39, .if_icmp .ge 0, [7]), (42, .iconst 0, []), (43, .istore 4, []), (45, .nop, [5])] := rfl
theorem pg_Mo_unruns_5 : zprog 241 5 = [(45, .iload 4, []), (47, .aload 0, []), (48, .getfield 0, [6, 1]), (51, .iload 3, []), (52, .iconst 1, []), (53, .iadd, []), (54, .iaload, []), (55, .if_icmp .gt 0, [6]), (58, .aload 1, []), (59, .iload 2, []), (60, .aload 0, []), (61, .getfield 0, [6, 1]), (64, .iload 3, []), (65, .iaload, []), (66, .iastore, []), (67, .iinc 2 1, []), (70, .iinc 4 1, []), (73, .goto 0, [5])] := rfl
theorem pg_Mo_unruns_6 : zprog 241 6 = [(76, .iinc 3 2, []), (79, .goto 0, [4])] := rfl
theorem pg_Mo_unruns_7 : zprog 241 7 = [(82, .aload 0, []), (83, .iload 2, []), (84, .iconst 120, []), (86, .if_icmp .gt 0, [8]), (89, .iconst 1, []), (90, .goto 0, [9])] := rfl
theorem pg_Mo_unruns_8 : zprog 241 8 = [(93, .iconst 0, []), (94, .nop, [9])] := rfl
theorem pg_Mo_unruns_9 : zprog 241 9 = [(94, .iconst 2, []), (95, .invokevirtual 0, [157, 3, 6]), (98, .ifCond .eq 0, [10]), (101, .iconst 0, []), (102, .goto 0, [11])] := rfl
theorem pg_Mo_unruns_10 : zprog 241 10 = [(105, .aload 0, []), (106, .aload 1, []), (107, .iload 2, []), (108, .invokevirtual 0, [240, 3, 6]), (111, .nop, [11])] := rfl
theorem pg_Mo_unruns_11 : zprog 241 11 = [(111, .ireturn, [])] := rfl
theorem pg_Mo_meanLength_0 : zprog 242 0 = [(0, .iconst 0, []), (1, .istore 2, []), (2, .aload 0, []), (3, .getfield 0, [6, 0]), (6, .astore 3, []), (7, .aload 3, []), (8, .arraylength, []), (9, .istore 4, []), (11, .iconst 0, []), (12, .istore 5, []), (14, .nop, [1])] := rfl
theorem pg_Mo_meanLength_1 : zprog 242 1 = [(14, .iload 5, []), (16, .iload 4, []), (18, .if_icmp .ge 0, [2]), (21, .aload 3, []), (22, .iload 5, []), (24, .iaload, []), (25, .istore 6, []), (27, .iload 2, []), (28, .iload 6, []), (30, .iadd, []), (31, .istore 2, []), (32, .iinc 5 1, []), (35, .goto 0, [1])] := rfl
theorem pg_Mo_meanLength_2 : zprog 242 2 = [(38, .aload 0, []), (39, .aload 0, []), (40, .iload 1, []), (41, .invokevirtual 0, [160, 2, 6]), (44, .iconst 1, []), (45, .invokevirtual 0, [157, 3, 6]), (48, .ifCond .ne 0, [5]), (51, .aload 0, []), (52, .aload 0, []), (53, .iload 1, []), (54, .invokevirtual 0, [199, 2, 6]), (57, .iconst 2, []), (58, .invokevirtual 0, [157, 3, 6]), (61, .ifCond .ne 0, [5]), (64, .aload 0, []), (65, .iload 2, []), (66, .ifCond .le 0, [3]), (69, .iconst 1, []), (70, .goto 0, [4])] := rfl
theorem pg_Mo_meanLength_3 : zprog 242 3 = [(73, .iconst 0, []), (74, .nop, [4])] := rfl
theorem pg_Mo_meanLength_4 : zprog 242 4 = [(74, .iconst 3, []), (75, .invokevirtual 0, [157, 3, 6]), (78, .ifCond .eq 0, [6]), (81, .nop, [5])] := rfl
theorem pg_Mo_meanLength_5 : zprog 242 5 = [(81, .dconst 0, []), (82, .dreturn, [])] := rfl
theorem pg_Mo_meanLength_6 : zprog 242 6 = [(83, .aload 0, []), (84, .getfield 0, [6, 0]), (87, .aload 0, []), (88, .getfield 0, [6, 4]), (91, .iload 1, []), (92, .aaload, []), (93, .invokestatic 0, [173, 2]), (96, .i2d, []), (97, .iload 2, []), (98, .i2d, []), (99, .ddiv, []), (100, .dreturn, [])] := rfl
theorem pg_Mo_fullShare_0 : zprog 243 0 = [(0, .iconst 0, []), (1, .istore 1, []), (2, .iconst 0, []), (3, .istore 2, []), (4, .iconst 0, []), (5, .istore 3, []), (6, .nop, [1])] := rfl
theorem pg_Mo_fullShare_1 : zprog 243 1 = [(6, .iload 3, []), (7, .aload 0, []), (8, .getfield 0, [6, 6]), (11, .if_icmp .ge 0, [6]), (14, .iload 1, []), (15, .aload 0, []), (16, .getfield 0, [6, 3]), (19, .iload 3, []), (20, .caload, []), (21, .iconst 116, []), (23, .if_icmp .eq 0, [2]), (26, .iconst 1, []), (27, .goto 0, [3])] := rfl
theorem pg_Mo_fullShare_2 : zprog 243 2 = [(30, .iconst 0, []), (31, .nop, [3])] := rfl
theorem pg_Mo_fullShare_3 : zprog 243 3 = [(31, .iadd, []), (32, .istore 1, []), (33, .iload 2, []), (34, .aload 0, []), (35, .getfield 0, [6, 3]), (38, .iload 3, []), (39, .caload, []), (40, .iconst 116, []), (42, .if_icmp .eq 0, [4]), (45, .aload 0, []), (46, .getfield 0, [6, 4]), (49, .iload 3, []), (50, .aaload, []), (51, .ldc2_w 0, [2, 0]), (54, .invokestatic 0, [186, 2]), (57, .ldc2_w 0, [33554432, 0]), (60, .lcmp, []), (61, .ifCond .ne 0, [4]), (64, .iconst 1, []), (65, .goto 0, [5])] := rfl
theorem pg_Mo_fullShare_4 : zprog 243 4 = [(68, .iconst 0, []), (69, .nop, [5])] := rfl
theorem pg_Mo_fullShare_5 : zprog 243 5 = [(69, .iadd, []), (70, .istore 2, []), (71, .iinc 3 1, []), (74, .goto 0, [1])] := rfl
theorem pg_Mo_fullShare_6 : zprog 243 6 = [(77, .aload 0, []), (78, .iload 1, []), (79, .ifCond .le 0, [7]), (82, .iconst 1, []), (83, .goto 0, [8])] := rfl
theorem pg_Mo_fullShare_7 : zprog 243 7 = [(86, .iconst 0, []), (87, .nop, [8])] := rfl
theorem pg_Mo_fullShare_8 : zprog 243 8 = [(87, .iconst 1, []), (88, .invokevirtual 0, [157, 3, 6]), (91, .ifCond .eq 0, [9]), (94, .fconst 0, []), (95, .goto 0, [10])] := rfl
theorem pg_Mo_fullShare_9 : zprog 243 9 = [(98, .iload 2, []), (99, .i2f, []), (100, .iload 1, []), (101, .i2f, []), (102, .fdiv, []), (103, .nop, [10])] := rfl
theorem pg_Mo_fullShare_10 : zprog 243 10 = [(103, .freturn, [])] := rfl
theorem pg_Mo_checksum_0 : zprog 244 0 = [(0, .aload 0, []), (1, .iconst 0, []), (2, .putfield 0, [6, 10, 0]), (5, .ldc2_w 0, [7, 0]), (8, .lstore 1, []), (9, .aload 0, []), (10, .getfield 0, [6, 0]), (13, .astore 3, []), (14, .aload 3, []), (15, .arraylength, []), (16, .istore 4, []), (18, .iconst 0, []), (19, .istore 5, []), (21, .nop, [1])] := rfl
theorem pg_Mo_checksum_1 : zprog 244 1 = [(21, .iload 5, []), (23, .iload 4, []), (25, .if_icmp .ge 0, [2]), (28, .aload 3, []), (29, .iload 5, []), (31, .iaload, []), (32, .istore 6, []), (34, .ldc2_w 0, [31, 0]), (37, .lload 1, []), (38, .lmul, []), (39, .iload 6, []), (41, .i2l, []), (42, .ladd, []), (43, .lstore 1, []), (44, .iinc 5 1, []), (47, .goto 0, [1])] := rfl
theorem pg_Mo_checksum_2 : zprog 244 2 = [(50, .iconst 0, []), (51, .istore 3, []), (52, .nop, [3])] := rfl
theorem pg_Mo_checksum_3 : zprog 244 3 = [(52, .iload 3, []), (53, .aload 0, []), (54, .getfield 0, [6, 2]), (57, .if_icmp .ge 0, [4]), (60, .ldc2_w 0, [31, 0]), (63, .lload 1, []), (64, .lmul, []), (65, .aload 0, []), (66, .getfield 0, [6, 1]), (69, .iload 3, []), (70, .iaload, []), (71, .i2l, []), (72, .ladd, []), (73, .lstore 1, []), (74, .iinc 3 1, []), (77, .goto 0, [3])] := rfl
theorem pg_Mo_checksum_4 : zprog 244 4 = [(80, .iconst 0, []), (81, .istore 3, []), (82, .nop, [5])] := rfl
theorem pg_Mo_checksum_5 : zprog 244 5 = [(82, .iload 3, []), (83, .aload 0, []), (84, .getfield 0, [6, 6]), (87, .if_icmp .ge 0, [8]), (90, .aload 0, []), (91, .getfield 0, [6, 4]), (94, .iload 3, []), (95, .aaload, []), (96, .astore 4, []), (98, .aload 4, []), (100, .arraylength, []), (101, .istore 5, []), (103, .iconst 0, []), (104, .istore 6, []), (106, .nop, [6])] := rfl
theorem pg_Mo_checksum_6 : zprog 244 6 = [(106, .iload 6, []), (108, .iload 5, []), (110, .if_icmp .ge 0, [7]), (113, .aload 4, []), (115, .iload 6, []), (117, .iaload, []), (118, .istore 7, []), (120, .ldc2_w 0, [31, 0]), (123, .lload 1, []), (124, .lmul, []), (125, .iload 7, []), (127, .i2l, []), (128, .ladd, []), (129, .lstore 1, []), (130, .iinc 6 1, []), (133, .goto 0, [6])] := rfl
theorem pg_Mo_checksum_7 : zprog 244 7 = [(136, .iinc 3 1, []), (139, .goto 0, [5])] := rfl
theorem pg_Mo_checksum_8 : zprog 244 8 = [(142, .iconst 0, []), (143, .istore 3, []), (144, .nop, [9])] := rfl
theorem pg_Mo_checksum_9 : zprog 244 9 = [(144, .iload 3, []), (145, .aload 0, []), (146, .getfield 0, [6, 8]), (149, .if_icmp .ge 0, [10]), (152, .ldc2_w 0, [31, 0]), (155, .lload 1, []), (156, .lmul, []), (157, .aload 0, []), (158, .getfield 0, [6, 7]), (161, .iload 3, []), (162, .iaload, []), (163, .i2l, []), (164, .ladd, []), (165, .lstore 1, []), (166, .iinc 3 1, []), (169, .goto 0, [9])] := rfl
theorem pg_Mo_checksum_10 : zprog 244 10 = [(172, .lload 1, []), (173, .lreturn, [])] := rfl
theorem pg_Mo_isSound_0 : zprog 245 0 = [(0, .aload 0, []), (1, .iconst 0, []), (2, .putfield 0, [6, 10, 0]), (5, .iconst 1, []), (6, .istore 1, []), (7, .iconst 0, []), (8, .istore 2, []), (9, .nop, [1])] := rfl
theorem pg_Mo_isSound_1 : zprog 245 1 = [(9, .iload 2, []), (10, .aload 0, []), (11, .getfield 0, [6, 6]), (14, .if_icmp .ge 0, [6]), (17, .aload 0, []), (18, .getfield 0, [6, 4]), (21, .iload 2, []), (22, .aaload, []), (23, .aload 0, []), (24, .iload 2, []), (25, .invokevirtual 0, [192, 2, 6]), (28, .i2l, []), (29, .invokestatic 0, [186, 2]), (32, .lstore 3, []), (33, .iload 1, []), (34, .ifCond .eq 0, [4]), (37, .aload 0, []), (38, .getfield 0, [6, 3]), (41, .iload 2, []), (42, .caload, []), (43, .iconst 116, []), (45, .if_icmp .eq 0, [3]), (48, .aload 0, []), (49, .getfield 0, [6, 3]), (52, .iload 2, []), (53, .caload, []), (54, .iconst 107, []), (56, .if_icmp .ne 0, [2]), (59, .lload 3, []), (60, .ldc2_w 0, [33554432, 0]), (63, .lcmp, []), (64, .ifCond .gt 0, [4]), (67, .goto 0, [3])] := rfl
theorem pg_Mo_isSound_2 : zprog 245 2 = [(70, .lload 3, []), (71, .ldc2_w 0, [33554432, 0]), (74, .lcmp, []), (75, .ifCond .ne 0, [4]), (78, .nop, [3])] := rfl
theorem pg_Mo_isSound_3 : zprog 245 3 = [(78, .iconst 1, []), (79, .goto 0, [5])] := rfl
theorem pg_Mo_isSound_4 : zprog 245 4 = [(82, .iconst 0, []), (83, .nop, [5])] := rfl
theorem pg_Mo_isSound_5 : zprog 245 5 = [(83, .istore 1, []), (84, .iinc 2 1, []), (87, .goto 0, [1])] := rfl
theorem pg_Mo_isSound_6 : zprog 245 6 = [(90, .iconst 120, []), (92, .newarray .int, [0]), (94, .astore 2, []), (95, .iconst 4200, []), (98, .newarray .int, [0]), (100, .astore 3, []), (101, .aload 0, []), (102, .aload 0, []), (103, .getfield 0, [6, 1]), (106, .aload 0, []), (107, .getfield 0, [6, 2]), (110, .aload 3, []), (111, .invokevirtual 0, [222, 4, 6]), (114, .istore 4, []), (116, .aload 0, []), (117, .aload 3, []), (118, .iload 4, []), (120, .aload 0, []), (121, .getfield 0, [6, 2]), (124, .aload 2, []), (125, .invokevirtual 0, [223, 5, 6]), (128, .istore 5, []), (130, .iload 1, []), (131, .ifCond .eq 0, [7]), (134, .iload 5, []), (136, .aload 0, []), (137, .getfield 0, [6, 2]), (140, .if_icmp .ne 0, [7]), (143, .iconst 1, []), (144, .goto 0, [8])] := rfl
theorem pg_Mo_isSound_7 : zprog 245 7 = [(147, .iconst 0, []), (148, .nop, [8])] := rfl
theorem pg_Mo_isSound_8 : zprog 245 8 = [(148, .istore 1, []), (149, .iconst 0, []), (150, .istore 6, []), (152, .nop, [9])] := rfl
theorem pg_Mo_isSound_9 : zprog 245 9 = [(152, .iload 6, []), (154, .iload 5, []), (156, .if_icmp .ge 0, [12]), (159, .iload 1, []), (160, .ifCond .eq 0, [10]), (163, .aload 2, []), (164, .iload 6, []), (166, .iaload, []), (167, .aload 0, []), (168, .getfield 0, [6, 1]), (171, .iload 6, []), (173, .iaload, []), (174, .if_icmp .ne 0, [10]), (177, .iconst 1, []), (178, .goto 0, [11])] := rfl
theorem pg_Mo_isSound_10 : zprog 245 10 = [(181, .iconst 0, []), (182, .nop, [11])] := rfl
theorem pg_Mo_isSound_11 : zprog 245 11 = [(182, .istore 1, []), (183, .iinc 6 1, []), (186, .goto 0, [9])] := rfl
theorem pg_Mo_isSound_12 : zprog 245 12 = [(189, .ldc 0, [2147483647]), (191, .istore 6, []), (193, .iconst 1, []), (194, .istore 7, []), (196, .nop, [13])] := rfl
theorem pg_Mo_isSound_13 : zprog 245 13 = [(196, .iload 7, []), (198, .iconst 25, []), (200, .if_icmp .gt 0, [17]), (203, .aload 0, []), (204, .getfield 0, [6, 0]), (207, .invokestatic 0, [168, 1]), (210, .ifCond .le 0, [17]), (213, .aload 0, []), (214, .getfield 0, [6, 0]), (217, .invokestatic 0, [168, 1]), (220, .iload 7, []), (222, .invokestatic 0, [182, 2]), (225, .ifCond .eq 0, [16]), (228, .aload 0, []), (229, .getfield 0, [6, 0]), (232, .aload 0, []), (233, .aload 0, []), (234, .getfield 0, [6, 0]), (237, .iload 7, []), (239, .aload 0, []), (240, .getfield 0, [6, 12]), (243, .invokevirtual 0, [174, 4, 6]), (246, .invokestatic 0, [173, 2]), (249, .istore 8, []), (251, .iload 1, []), (252, .ifCond .eq 0, [14]), (255, .iload 8, []), (257, .iload 6, []), (259, .if_icmp .gt 0, [14]), (262, .iload 8, []), (264, .aload 0, []), (265, .aload 0, []), (266, .getfield 0, [6, 0]), (269, .invokevirtual 0, [203, 2, 6]), (272, .if_icmp .lt 0, [14]), (275, .iconst 1, []), (276, .goto 0, [15])] := rfl
theorem pg_Mo_isSound_14 : zprog 245 14 = [(279, .iconst 0, []), (280, .nop, [15])] := rfl
theorem pg_Mo_isSound_15 : zprog 245 15 = [(280, .istore 1, []), (281, .iload 8, []), (283, .istore 6, []), (285, .nop, [16])] := rfl
theorem pg_Mo_isSound_16 : zprog 245 16 = [(285, .iinc 7 1, []), (288, .goto 0, [13])] := rfl
theorem pg_Mo_isSound_17 : zprog 245 17 = [(291, .iload 1, []), (292, .ifCond .eq 0, [19]), (295, .aload 0, []), (296, .getfield 0, [6, 0]), (299, .invokestatic 0, [168, 1]), (302, .ifCond .eq 0, [18]), (305, .aload 0, []), (306, .getfield 0, [6, 0]), (309, .aload 0, []), (310, .getfield 0, [6, 0]), (313, .invokestatic 0, [176, 1]), (316, .invokestatic 0, [173, 2]), (319, .aload 0, []), (320, .aload 0, []), (321, .getfield 0, [6, 0]), (324, .invokevirtual 0, [203, 2, 6]), (327, .if_icmp .lt 0, [19]), (330, .nop, [18])] := rfl
theorem pg_Mo_isSound_18 : zprog 245 18 = [(330, .iconst 1, []), (331, .goto 0, [20])] := rfl
theorem pg_Mo_isSound_19 : zprog 245 19 = [(334, .iconst 0, []), (335, .nop, [20])] := rfl
theorem pg_Mo_isSound_20 : zprog 245 20 = [(335, .ireturn, [2])] := rfl
theorem pg_AL_init_0 : zprog 246 0 = [(0, .aload 0, []), (1, .invokespecial 0, [255, 1]), (4, .aload 0, []), (5, .getstatic 0, []), (8, .putfield 0, [7, 1, 2]), (11, .return_, [])] := rfl
theorem pg_AL_grow1_0 : zprog 247 0 = [(0, .aload 0, []), (1, .getfield 0, [7, 1]), (4, .arraylength, []), (5, .istore 2, []), (6, .iload 2, []), (7, .ifCond .gt 0, [1]), (10, .aload 0, []), (11, .getfield 0, [7, 1]), (14, .getstatic 0, []), (17, .if_acmp .eq 0, [2]), (20, .nop, [1])] := rfl
theorem pg_AL_grow1_1 : zprog 247 1 = [(20, .iload 2, []), (21, .iload 1, []), (22, .iload 2, []), (23, .isub, []), (24, .iload 2, []), (25, .iconst 1, []), (26, .ishr, []), (27, .invokestatic 0, [259, 3]), (30, .istore 3, []), (31, .aload 0, []), (32, .aload 0, []), (33, .getfield 0, [7, 1]), (36, .iload 3, []), (37, .invokestatic 0, []), (40, .dup_x1, []), (41, .putfield 0, [7, 1, 2]), (44, .areturn, [])] := rfl
theorem pg_AL_grow1_2 : zprog 247 2 = [(45, .aload 0, []), (46, .iconst 10, []), (48, .iload 1, []), (49, .invokestatic 0, [0]), (52, .anewarray 0, [0]), (55, .dup_x1, []), (56, .putfield 0, [7, 1, 2]), (59, .areturn, [])] := rfl
theorem pg_AL_grow2_0 : zprog 248 0 = [(0, .aload 0, []), (1, .aload 0, []), (2, .getfield 0, [7, 2]), (5, .iconst 1, []), (6, .iadd, []), (7, .invokevirtual 0, [247, 2, 7]), (10, .areturn, [])] := rfl
theorem pg_AL_size_0 : zprog 249 0 = [(0, .aload 0, []), (1, .getfield 0, [7, 2]), (4, .ireturn, [])] := rfl
theorem pg_AL_elementData_0 : zprog 250 0 = [(0, .aload 0, []), (1, .getfield 0, [7, 1]), (4, .iload 1, []), (5, .aaload, []), (6, .areturn, [])] := rfl
theorem pg_AL_get_0 : zprog 251 0 = [(0, .iload 1, []), (1, .aload 0, []), (2, .getfield 0, [7, 2]), (5, .invokestatic 0, [257, 2]), (8, .pop, []), (9, .aload 0, []), (10, .iload 1, []), (11, .invokevirtual 0, [250, 2, 7]), (14, .areturn, [])] := rfl
theorem pg_AL_add1_0 : zprog 252 0 = [(0, .iload 3, []), (1, .aload 2, []), (2, .arraylength, []), (3, .if_icmp .ne 0, [1]), (6, .aload 0, []), (7, .invokevirtual 0, [248, 1, 7]), (10, .astore 2, []), (11, .nop, [1])] := rfl
theorem pg_AL_add1_1 : zprog 252 1 = [(11, .aload 2, []), (12, .iload 3, []), (13, .aload 1, []), (14, .aastore, []), (15, .aload 0, []), (16, .iload 3, []), (17, .iconst 1, []), (18, .iadd, []), (19, .putfield 0, [7, 2, 0]), (22, .return_, [])] := rfl
theorem pg_AL_add2_0 : zprog 253 0 = [(0, .aload 0, []), (1, .dup, []), (2, .getfield 0, [7, 0]), (5, .iconst 1, []), (6, .iadd, []), (7, .putfield 0, [7, 0, 0]), (10, .aload 0, []), (11, .aload 1, []), (12, .aload 0, []), (13, .getfield 0, [7, 1]), (16, .aload 0, []), (17, .getfield 0, [7, 2]), (20, .invokevirtual 0, [252, 4, 7]), (23, .iconst 1, []), (24, .ireturn, [2])] := rfl
theorem pg_AL_clear_0 : zprog 254 0 = [(0, .aload 0, []), (1, .dup, []), (2, .getfield 0, [7, 0]), (5, .iconst 1, []), (6, .iadd, []), (7, .putfield 0, [7, 0, 0]), (10, .aload 0, []), (11, .getfield 0, [7, 1]), (14, .astore 1, []), (15, .aload 0, []), (16, .getfield 0, [7, 2]), (19, .istore 2, []), (20, .aload 0, []), (21, .iconst 0, []), (22, .dup_x1, []), (23, .putfield 0, [7, 2, 0]), (26, .istore 3, []), (27, .nop, [1])] := rfl
theorem pg_AL_clear_1 : zprog 254 1 = [(27, .iload 3, []), (28, .iload 2, []), (29, .if_icmp .ge 0, [2]), (32, .aload 1, []), (33, .iload 3, []), (34, .aconst_null, []), (35, .aastore, []), (36, .iinc 3 1, []), (39, .goto 0, [1])] := rfl
theorem pg_AL_clear_2 : zprog 254 2 = [(42, .return_, [])] := rfl
theorem pg_ABL_init_0 : zprog 255 0 = [(0, .aload 0, []), (1, .invokespecial 0, [256, 1]), (4, .aload 0, []), (5, .iconst 0, []), (6, .putfield 0, [7, 0, 0]), (9, .return_, [])] := rfl
theorem pg_ABC_init_0 : zprog 256 0 = [(0, .aload 0, []), (1, .invokespecial 0, []), (4, .return_, [])] := rfl
theorem pg_Ob_checkIndex_0 : zprog 257 0 = [(0, .iload 0, []), (1, .iload 1, []), (2, .aconst_null, []), (3, .invokestatic 0, [258, 3]), (6, .ireturn, [])] := rfl
theorem pg_Pre_checkIndex_0 : zprog 258 0 = [(0, .iload 0, []), (1, .ifCond .lt 0, [1]), (4, .iload 0, []), (5, .iload 1, []), (6, .if_icmp .lt 0, [2]), (9, .nop, [1])] := rfl
theorem pg_Pre_checkIndex_1 : zprog 258 1 = [(9, .aload 2, []), (10, .iload 0, []), (11, .iload 1, []), (12, .athrow, [])] := rfl
theorem pg_Pre_checkIndex_2 : zprog 258 2 = [(16, .iload 0, []), (17, .ireturn, [])] := rfl
theorem pg_AS_newLength_0 : zprog 259 0 = [(0, .iload 0, []), (1, .iload 1, []), (2, .iload 2, []), (3, .invokestatic 0, [0]), (6, .iadd, []), (7, .istore 3, []), (8, .iconst 0, []), (9, .iload 3, []), (10, .if_icmp .ge 0, [1]), (13, .iload 3, []), (14, .ldc 0, [2147483639]), (16, .if_icmp .gt 0, [1]), (19, .iload 3, []), (20, .ireturn, [])] := rfl
theorem pg_AS_newLength_1 : zprog 259 1 = [(21, .iload 0, []), (22, .iload 1, []), (23, .athrow, [])] := rfl
theorem pg_La_type_0 : zprog 260 0 = [(0, .aload 2, []), (1, .iconst 0, []), (2, .aload 0, []), (3, .iload 1, []), (4, .invokevirtual 0, [59, 2, 5, 8, 1, 9, 2]), (7, .i2l, []), (8, .lastore, []), (9, .goto 0, [3])] := rfl
theorem pg_La_type_1 : zprog 260 1 = [(12, .astore 3, []), (13, .iconst 1, []), (14, .ireturn, [])] := rfl
theorem pg_La_type_2 : zprog 260 2 = [(15, .astore 3, []), (16, .iconst 2, []), (17, .ireturn, [])] := rfl
theorem pg_La_type_3 : zprog 260 3 = [(18, .iconst 0, []), (19, .ireturn, [])] := rfl
theorem pg_La_typeMore_0 : zprog 261 0 = [(0, .aload 10, []), (2, .iconst 0, []), (3, .aload 0, []), (4, .iload 1, []), (5, .iload 2, []), (6, .iload 3, []), (7, .iload 4, []), (9, .iload 5, []), (11, .iload 6, []), (13, .iload 7, []), (15, .iload 8, []), (17, .iload 9, []), (19, .invokevirtual 0, [60, 10, 5, 8, 1, 9, 2]), (22, .i2l, []), (23, .lastore, []), (24, .goto 0, [3])] := rfl
theorem pg_La_typeMore_1 : zprog 261 1 = [(27, .astore 11, []), (29, .iconst 1, []), (30, .ireturn, [])] := rfl
theorem pg_La_typeMore_2 : zprog 261 2 = [(31, .astore 11, []), (33, .iconst 2, []), (34, .ireturn, [])] := rfl
theorem pg_La_typeMore_3 : zprog 261 3 = [(35, .iconst 0, []), (36, .ireturn, [])] := rfl
theorem pg_La_typed_0 : zprog 262 0 = [(0, .aload 2, []), (1, .iconst 0, []), (2, .aload 0, []), (3, .iload 1, []), (4, .invokevirtual 0, [63, 2, 5, 10, 1]), (7, .i2l, []), (8, .lastore, []), (9, .goto 0, [2])] := rfl
theorem pg_La_typed_1 : zprog 262 1 = [(12, .astore 3, []), (13, .iconst 1, []), (14, .ireturn, [])] := rfl
theorem pg_La_typed_2 : zprog 262 2 = [(15, .iconst 0, []), (16, .ireturn, [])] := rfl
theorem pg_La_set_0 : zprog 263 0 = [(0, .aload 3, []), (1, .iconst 0, []), (2, .aload 0, []), (3, .iload 1, []), (4, .iload 2, []), (5, .invokevirtual 0, [64, 3, 5, 8, 1]), (8, .i2l, []), (9, .lastore, []), (10, .goto 0, [2])] := rfl
theorem pg_La_set_1 : zprog 263 1 = [(13, .astore 4, []), (15, .iconst 1, []), (16, .ireturn, [])] := rfl
theorem pg_La_set_2 : zprog 263 2 = [(17, .iconst 0, []), (18, .ireturn, [])] := rfl
theorem pg_La_count_0 : zprog 264 0 = [(0, .aload 2, []), (1, .iconst 0, []), (2, .aload 0, []), (3, .iload 1, []), (4, .invokevirtual 0, [65, 2, 5, 8, 1]), (7, .i2l, []), (8, .lastore, []), (9, .goto 0, [2])] := rfl
theorem pg_La_count_1 : zprog 264 1 = [(12, .astore 3, []), (13, .iconst 1, []), (14, .ireturn, [])] := rfl
theorem pg_La_count_2 : zprog 264 2 = [(15, .iconst 0, []), (16, .ireturn, [])] := rfl
theorem pg_La_least_0 : zprog 265 0 = [(0, .aload 1, []), (1, .iconst 0, []), (2, .aload 0, []), (3, .invokevirtual 0, [68, 1, 5, 11, 1, 9, 2]), (6, .i2l, []), (7, .lastore, []), (8, .goto 0, [3])] := rfl
theorem pg_La_least_1 : zprog 265 1 = [(11, .astore 2, []), (12, .iconst 1, []), (13, .ireturn, [])] := rfl
theorem pg_La_least_2 : zprog 265 2 = [(14, .astore 2, []), (15, .iconst 2, []), (16, .ireturn, [])] := rfl
theorem pg_La_least_3 : zprog 265 3 = [(17, .iconst 0, []), (18, .ireturn, [])] := rfl
theorem pg_La_bounded_0 : zprog 266 0 = [(0, .aload 2, []), (1, .iconst 0, []), (2, .aload 0, []), (3, .iload 1, []), (4, .invokevirtual 0, [69, 2, 5, 8, 1, 11, 2, 12, 3, 9, 4]), (7, .i2l, []), (8, .lastore, []), (9, .goto 0, [5])] := rfl
theorem pg_La_bounded_1 : zprog 266 1 = [(12, .astore 3, []), (13, .iconst 1, []), (14, .ireturn, [])] := rfl
theorem pg_La_bounded_2 : zprog 266 2 = [(15, .astore 3, []), (16, .iconst 2, []), (17, .ireturn, [])] := rfl
theorem pg_La_bounded_3 : zprog 266 3 = [(18, .astore 3, []), (19, .iconst 3, []), (20, .ireturn, [])] := rfl
theorem pg_La_bounded_4 : zprog 266 4 = [(21, .astore 3, []), (22, .iconst 4, []), (23, .ireturn, [])] := rfl
theorem pg_La_bounded_5 : zprog 266 5 = [(24, .iconst 0, []), (25, .ireturn, [])] := rfl
theorem pg_La_ordered_0 : zprog 267 0 = [(0, .aload 1, []), (1, .iconst 0, []), (2, .aload 0, []), (3, .invokevirtual 0, [70, 1, 5, 11, 1, 9, 2]), (6, .i2l, []), (7, .lastore, []), (8, .goto 0, [3])] := rfl
theorem pg_La_ordered_1 : zprog 267 1 = [(11, .astore 2, []), (12, .iconst 1, []), (13, .ireturn, [])] := rfl
theorem pg_La_ordered_2 : zprog 267 2 = [(14, .astore 2, []), (15, .iconst 2, []), (16, .ireturn, [])] := rfl
theorem pg_La_ordered_3 : zprog 267 3 = [(17, .iconst 0, []), (18, .ireturn, [])] := rfl
theorem pg_La_triple_0 : zprog 268 0 = [(0, .aload 1, []), (1, .iconst 0, []), (2, .aload 0, []), (3, .invokevirtual 0, [71, 1, 5, 11, 1, 9, 2]), (6, .i2l, []), (7, .lastore, []), (8, .goto 0, [3])] := rfl
theorem pg_La_triple_1 : zprog 268 1 = [(11, .astore 2, []), (12, .iconst 1, []), (13, .ireturn, [])] := rfl
theorem pg_La_triple_2 : zprog 268 2 = [(14, .astore 2, []), (15, .iconst 2, []), (16, .ireturn, [])] := rfl
theorem pg_La_triple_3 : zprog 268 3 = [(17, .iconst 0, []), (18, .ireturn, [])] := rfl
theorem pg_La_byLengths_0 : zprog 269 0 = [(0, .aload 1, []), (1, .iconst 0, []), (2, .aload 0, []), (3, .invokevirtual 0, [72, 1, 5, 8, 1, 11, 2, 12, 3, 9, 4]), (6, .i2l, []), (7, .lastore, []), (8, .goto 0, [5])] := rfl
theorem pg_La_byLengths_1 : zprog 269 1 = [(11, .astore 2, []), (12, .iconst 1, []), (13, .ireturn, [])] := rfl
theorem pg_La_byLengths_2 : zprog 269 2 = [(14, .astore 2, []), (15, .iconst 2, []), (16, .ireturn, [])] := rfl
theorem pg_La_byLengths_3 : zprog 269 3 = [(17, .astore 2, []), (18, .iconst 3, []), (19, .ireturn, [])] := rfl
theorem pg_La_byLengths_4 : zprog 269 4 = [(20, .astore 2, []), (21, .iconst 4, []), (22, .ireturn, [])] := rfl
theorem pg_La_byLengths_5 : zprog 269 5 = [(23, .iconst 0, []), (24, .ireturn, [])] := rfl
theorem pg_La_kindOf_0 : zprog 270 0 = [(0, .aload 2, []), (1, .iconst 0, []), (2, .aload 0, []), (3, .iload 1, []), (4, .invokevirtual 0, [75, 2, 5, 10, 1]), (7, .i2l, []), (8, .lastore, []), (9, .goto 0, [2])] := rfl
theorem pg_La_kindOf_1 : zprog 270 1 = [(12, .astore 3, []), (13, .iconst 1, []), (14, .ireturn, [])] := rfl
theorem pg_La_kindOf_2 : zprog 270 2 = [(15, .iconst 0, []), (16, .ireturn, [])] := rfl
theorem pg_La_signs_0 : zprog 271 0 = [(0, .aload 2, []), (1, .iconst 0, []), (2, .aload 0, []), (3, .iload 1, []), (4, .invokevirtual 0, [76, 2, 5, 10, 1]), (7, .i2l, []), (8, .lastore, []), (9, .goto 0, [2])] := rfl
theorem pg_La_signs_1 : zprog 271 1 = [(12, .astore 3, []), (13, .iconst 1, []), (14, .ireturn, [])] := rfl
theorem pg_La_signs_2 : zprog 271 2 = [(15, .iconst 0, []), (16, .ireturn, [])] := rfl
theorem pg_La_signAt_0 : zprog 272 0 = [(0, .aload 3, []), (1, .iconst 0, []), (2, .aload 0, []), (3, .iload 1, []), (4, .iload 2, []), (5, .invokevirtual 0, [77, 3, 5, 10, 1]), (8, .i2l, []), (9, .lastore, []), (10, .goto 0, [2])] := rfl
theorem pg_La_signAt_1 : zprog 272 1 = [(13, .astore 4, []), (15, .iconst 1, []), (16, .ireturn, [])] := rfl
theorem pg_La_signAt_2 : zprog 272 2 = [(17, .iconst 0, []), (18, .ireturn, [])] := rfl
theorem pg_La_wordLength_0 : zprog 273 0 = [(0, .aload 3, []), (1, .iconst 0, []), (2, .aload 0, []), (3, .iload 1, []), (4, .iload 2, []), (5, .invokevirtual 0, [78, 3, 5, 10, 1, 8, 2, 11, 3]), (8, .i2l, []), (9, .lastore, []), (10, .goto 0, [4])] := rfl
theorem pg_La_wordLength_1 : zprog 273 1 = [(13, .astore 4, []), (15, .iconst 1, []), (16, .ireturn, [])] := rfl
theorem pg_La_wordLength_2 : zprog 273 2 = [(17, .astore 4, []), (19, .iconst 2, []), (20, .ireturn, [])] := rfl
theorem pg_La_wordLength_3 : zprog 273 3 = [(21, .astore 4, []), (23, .iconst 3, []), (24, .ireturn, [])] := rfl
theorem pg_La_wordLength_4 : zprog 273 4 = [(25, .iconst 0, []), (26, .ireturn, [])] := rfl
theorem pg_La_wordBit_0 : zprog 274 0 = [(0, .aload 4, []), (2, .iconst 0, []), (3, .aload 0, []), (4, .iload 1, []), (5, .iload 2, []), (6, .iload 3, []), (7, .invokevirtual 0, [79, 4, 5, 10, 1, 8, 2, 11, 3]), (10, .i2l, []), (11, .lastore, []), (12, .goto 0, [4])] := rfl
theorem pg_La_wordBit_1 : zprog 274 1 = [(15, .astore 5, []), (17, .iconst 1, []), (18, .ireturn, [])] := rfl
theorem pg_La_wordBit_2 : zprog 274 2 = [(19, .astore 5, []), (21, .iconst 2, []), (22, .ireturn, [])] := rfl
theorem pg_La_wordBit_3 : zprog 274 3 = [(23, .astore 5, []), (25, .iconst 3, []), (26, .ireturn, [])] := rfl
theorem pg_La_wordBit_4 : zprog 274 4 = [(27, .iconst 0, []), (28, .ireturn, [])] := rfl
theorem pg_La_longest_0 : zprog 275 0 = [(0, .aload 2, []), (1, .iconst 0, []), (2, .aload 0, []), (3, .iload 1, []), (4, .invokevirtual 0, [80, 2, 5, 10, 1]), (7, .i2l, []), (8, .lastore, []), (9, .goto 0, [2])] := rfl
theorem pg_La_longest_1 : zprog 275 1 = [(12, .astore 3, []), (13, .iconst 1, []), (14, .ireturn, [])] := rfl
theorem pg_La_longest_2 : zprog 275 2 = [(15, .iconst 0, []), (16, .ireturn, [])] := rfl
theorem pg_La_bits_0 : zprog 276 0 = [(0, .aload 2, []), (1, .iconst 0, []), (2, .aload 0, []), (3, .iload 1, []), (4, .invokevirtual 0, [81, 2, 5, 10, 1, 11, 2]), (7, .i2l, []), (8, .lastore, []), (9, .goto 0, [3])] := rfl
theorem pg_La_bits_1 : zprog 276 1 = [(12, .astore 3, []), (13, .iconst 1, []), (14, .ireturn, [])] := rfl
theorem pg_La_bits_2 : zprog 276 2 = [(15, .astore 3, []), (16, .iconst 2, []), (17, .ireturn, [])] := rfl
theorem pg_La_bits_3 : zprog 276 3 = [(18, .iconst 0, []), (19, .ireturn, [])] := rfl
theorem pg_La_sum_0 : zprog 277 0 = [(0, .aload 2, []), (1, .iconst 0, []), (2, .aload 0, []), (3, .iload 1, []), (4, .invokevirtual 0, [82, 2, 5, 10, 1]), (7, .lastore, []), (8, .goto 0, [2])] := rfl
theorem pg_La_sum_1 : zprog 277 1 = [(11, .astore 3, []), (12, .iconst 1, []), (13, .ireturn, [])] := rfl
theorem pg_La_sum_2 : zprog 277 2 = [(14, .iconst 0, []), (15, .ireturn, [])] := rfl
theorem pg_La_lookup_0 : zprog 278 0 = [(0, .aload 4, []), (2, .iconst 0, []), (3, .aload 0, []), (4, .iload 1, []), (5, .iload 2, []), (6, .iload 3, []), (7, .invokevirtual 0, [83, 4, 5, 10, 1, 8, 2, 12, 3]), (10, .i2l, []), (11, .lastore, []), (12, .goto 0, [4])] := rfl
theorem pg_La_lookup_1 : zprog 278 1 = [(15, .astore 5, []), (17, .iconst 1, []), (18, .ireturn, [])] := rfl
theorem pg_La_lookup_2 : zprog 278 2 = [(19, .astore 5, []), (21, .iconst 2, []), (22, .ireturn, [])] := rfl
theorem pg_La_lookup_3 : zprog 278 3 = [(23, .astore 5, []), (25, .iconst 3, []), (26, .ireturn, [])] := rfl
theorem pg_La_lookup_4 : zprog 278 4 = [(27, .iconst 0, []), (28, .ireturn, [])] := rfl
theorem pg_La_boundCost_0 : zprog 279 0 = [(0, .aload 2, []), (1, .iconst 0, []), (2, .aload 0, []), (3, .iload 1, []), (4, .invokevirtual 0, [85, 2, 5, 8, 1, 12, 2]), (7, .i2l, []), (8, .lastore, []), (9, .goto 0, [3])] := rfl
theorem pg_La_boundCost_1 : zprog 279 1 = [(12, .astore 3, []), (13, .iconst 1, []), (14, .ireturn, [])] := rfl
theorem pg_La_boundCost_2 : zprog 279 2 = [(15, .astore 3, []), (16, .iconst 2, []), (17, .ireturn, [])] := rfl
theorem pg_La_boundCost_3 : zprog 279 3 = [(18, .iconst 0, []), (19, .ireturn, [])] := rfl
theorem pg_La_blockBits_0 : zprog 280 0 = [(0, .aload 2, []), (1, .iconst 0, []), (2, .aload 0, []), (3, .iload 1, []), (4, .invokevirtual 0, [87, 2, 5, 8, 1]), (7, .i2l, []), (8, .lastore, []), (9, .goto 0, [2])] := rfl
theorem pg_La_blockBits_1 : zprog 280 1 = [(12, .astore 3, []), (13, .iconst 1, []), (14, .ireturn, [])] := rfl
theorem pg_La_blockBits_2 : zprog 280 2 = [(15, .iconst 0, []), (16, .ireturn, [])] := rfl
theorem pg_La_fewestFor_0 : zprog 281 0 = [(0, .aload 2, []), (1, .iconst 0, []), (2, .aload 0, []), (3, .iload 1, []), (4, .invokevirtual 0, [88, 2, 5, 8, 1]), (7, .i2l, []), (8, .lastore, []), (9, .goto 0, [2])] := rfl
theorem pg_La_fewestFor_1 : zprog 281 1 = [(12, .astore 3, []), (13, .iconst 1, []), (14, .ireturn, [])] := rfl
theorem pg_La_fewestFor_2 : zprog 281 2 = [(15, .iconst 0, []), (16, .ireturn, [])] := rfl
theorem pg_La_countFor_0 : zprog 282 0 = [(0, .aload 3, []), (1, .iconst 0, []), (2, .aload 0, []), (3, .iload 1, []), (4, .iload 2, []), (5, .invokevirtual 0, [89, 3, 5, 8, 1, 10, 2]), (8, .i2l, []), (9, .lastore, []), (10, .goto 0, [3])] := rfl
theorem pg_La_countFor_1 : zprog 282 1 = [(13, .astore 4, []), (15, .iconst 1, []), (16, .ireturn, [])] := rfl
theorem pg_La_countFor_2 : zprog 282 2 = [(17, .astore 4, []), (19, .iconst 2, []), (20, .ireturn, [])] := rfl
theorem pg_La_countFor_3 : zprog 282 3 = [(21, .iconst 0, []), (22, .ireturn, [])] := rfl
theorem pg_La_saved_0 : zprog 283 0 = [(0, .aload 2, []), (1, .iconst 0, []), (2, .aload 0, []), (3, .iload 1, []), (4, .invokevirtual 0, [90, 2, 5, 10, 1]), (7, .i2l, []), (8, .lastore, []), (9, .goto 0, [2])] := rfl
theorem pg_La_saved_1 : zprog 283 1 = [(12, .astore 3, []), (13, .iconst 1, []), (14, .ireturn, [])] := rfl
theorem pg_La_saved_2 : zprog 283 2 = [(15, .iconst 0, []), (16, .ireturn, [])] := rfl
theorem pg_La_write_0 : zprog 284 0 = [(0, .aload 2, []), (1, .iconst 0, []), (2, .aload 0, []), (3, .iload 1, []), (4, .invokevirtual 0, [92, 2, 5, 10, 1, 12, 2, 11, 3]), (7, .i2l, []), (8, .lastore, []), (9, .goto 0, [4])] := rfl
theorem pg_La_write_1 : zprog 284 1 = [(12, .astore 3, []), (13, .iconst 1, []), (14, .ireturn, [])] := rfl
theorem pg_La_write_2 : zprog 284 2 = [(15, .astore 3, []), (16, .iconst 2, []), (17, .ireturn, [])] := rfl
theorem pg_La_write_3 : zprog 284 3 = [(18, .astore 3, []), (19, .iconst 3, []), (20, .ireturn, [])] := rfl
theorem pg_La_write_4 : zprog 284 4 = [(21, .iconst 0, []), (22, .ireturn, [])] := rfl
theorem pg_La_read_0 : zprog 285 0 = [(0, .aload 2, []), (1, .iconst 0, []), (2, .aload 0, []), (3, .iload 1, []), (4, .invokevirtual 0, [93, 2, 5, 10, 1, 12, 2]), (7, .i2l, []), (8, .lastore, []), (9, .goto 0, [3])] := rfl
theorem pg_La_read_1 : zprog 285 1 = [(12, .astore 3, []), (13, .iconst 1, []), (14, .ireturn, [])] := rfl
theorem pg_La_read_2 : zprog 285 2 = [(15, .astore 3, []), (16, .iconst 2, []), (17, .ireturn, [])] := rfl
theorem pg_La_read_3 : zprog 285 3 = [(18, .iconst 0, []), (19, .ireturn, [])] := rfl
theorem pg_La_bitAt_0 : zprog 286 0 = [(0, .aload 2, []), (1, .iconst 0, []), (2, .aload 0, []), (3, .iload 1, []), (4, .invokevirtual 0, [98, 2, 5, 10, 1]), (7, .i2l, []), (8, .lastore, []), (9, .goto 0, [2])] := rfl
theorem pg_La_bitAt_1 : zprog 286 1 = [(12, .astore 3, []), (13, .iconst 1, []), (14, .ireturn, [])] := rfl
theorem pg_La_bitAt_2 : zprog 286 2 = [(15, .iconst 0, []), (16, .ireturn, [])] := rfl
theorem pg_La_turn_0 : zprog 287 0 = [(0, .aload 2, []), (1, .iconst 0, []), (2, .aload 0, []), (3, .iload 1, []), (4, .invokevirtual 0, [99, 2, 5, 10, 1]), (7, .i2l, []), (8, .lastore, []), (9, .goto 0, [2])] := rfl
theorem pg_La_turn_1 : zprog 287 1 = [(12, .astore 3, []), (13, .iconst 1, []), (14, .ireturn, [])] := rfl
theorem pg_La_turn_2 : zprog 287 2 = [(15, .iconst 0, []), (16, .ireturn, [])] := rfl
theorem pg_La_byteAt_0 : zprog 288 0 = [(0, .aload 2, []), (1, .iconst 0, []), (2, .aload 0, []), (3, .iload 1, []), (4, .invokevirtual 0, [100, 2, 5, 10, 1]), (7, .i2l, []), (8, .lastore, []), (9, .goto 0, [2])] := rfl
theorem pg_La_byteAt_1 : zprog 288 1 = [(12, .astore 3, []), (13, .iconst 1, []), (14, .ireturn, [])] := rfl
theorem pg_La_byteAt_2 : zprog 288 2 = [(15, .iconst 0, []), (16, .ireturn, [])] := rfl
theorem pg_La_inStep_0 : zprog 289 0 = [(0, .aload 3, []), (1, .iconst 0, []), (2, .aload 0, []), (3, .iload 1, []), (4, .iload 2, []), (5, .invokevirtual 0, [101, 3, 5, 10, 1, 12, 2]), (8, .i2l, []), (9, .lastore, []), (10, .goto 0, [3])] := rfl
theorem pg_La_inStep_1 : zprog 289 1 = [(13, .astore 4, []), (15, .iconst 1, []), (16, .ireturn, [])] := rfl
theorem pg_La_inStep_2 : zprog 289 2 = [(17, .astore 4, []), (19, .iconst 2, []), (20, .ireturn, [])] := rfl
theorem pg_La_inStep_3 : zprog 289 3 = [(21, .iconst 0, []), (22, .ireturn, [])] := rfl
theorem pg_La_lost_0 : zprog 290 0 = [(0, .aload 3, []), (1, .iconst 0, []), (2, .aload 0, []), (3, .iload 1, []), (4, .iload 2, []), (5, .invokevirtual 0, [102, 3, 5, 10, 1, 12, 2]), (8, .i2l, []), (9, .lastore, []), (10, .goto 0, [3])] := rfl
theorem pg_La_lost_1 : zprog 290 1 = [(13, .astore 4, []), (15, .iconst 1, []), (16, .ireturn, [])] := rfl
theorem pg_La_lost_2 : zprog 290 2 = [(17, .astore 4, []), (19, .iconst 2, []), (20, .ireturn, [])] := rfl
theorem pg_La_lost_3 : zprog 290 3 = [(21, .iconst 0, []), (22, .ireturn, [])] := rfl
theorem pg_La_runs_0 : zprog 291 0 = [(0, .aload 1, []), (1, .iconst 0, []), (2, .aload 0, []), (3, .invokevirtual 0, [105, 1, 5, 9, 1]), (6, .i2l, []), (7, .lastore, []), (8, .goto 0, [2])] := rfl
theorem pg_La_runs_1 : zprog 291 1 = [(11, .astore 2, []), (12, .iconst 1, []), (13, .ireturn, [])] := rfl
theorem pg_La_runs_2 : zprog 291 2 = [(14, .iconst 0, []), (15, .ireturn, [])] := rfl
theorem pg_La_unruns_0 : zprog 292 0 = [(0, .aload 1, []), (1, .iconst 0, []), (2, .aload 0, []), (3, .invokevirtual 0, [106, 1, 5, 12, 1, 9, 2]), (6, .i2l, []), (7, .lastore, []), (8, .goto 0, [3])] := rfl
theorem pg_La_unruns_1 : zprog 292 1 = [(11, .astore 2, []), (12, .iconst 1, []), (13, .ireturn, [])] := rfl
theorem pg_La_unruns_2 : zprog 292 2 = [(14, .astore 2, []), (15, .iconst 2, []), (16, .ireturn, [])] := rfl
theorem pg_La_unruns_3 : zprog 292 3 = [(17, .iconst 0, []), (18, .ireturn, [])] := rfl
theorem pg_La_meanLength_0 : zprog 293 0 = [(0, .aload 2, []), (1, .iconst 0, []), (2, .aload 0, []), (3, .iload 1, []), (4, .invokevirtual 0, [107, 2, 5, 10, 1, 11, 2, 13, 3]), (7, .dastore, []), (8, .goto 0, [4])] := rfl
theorem pg_La_meanLength_1 : zprog 293 1 = [(11, .astore 3, []), (12, .iconst 1, []), (13, .ireturn, [])] := rfl
theorem pg_La_meanLength_2 : zprog 293 2 = [(14, .astore 3, []), (15, .iconst 2, []), (16, .ireturn, [])] := rfl
theorem pg_La_meanLength_3 : zprog 293 3 = [(17, .astore 3, []), (18, .iconst 3, []), (19, .ireturn, [])] := rfl
theorem pg_La_meanLength_4 : zprog 293 4 = [(20, .iconst 0, []), (21, .ireturn, [])] := rfl
theorem pg_La_fullShare_0 : zprog 294 0 = [(0, .aload 1, []), (1, .iconst 0, []), (2, .aload 0, []), (3, .invokevirtual 0, [108, 1, 5, 13, 1]), (6, .f2d, []), (7, .dastore, []), (8, .goto 0, [2])] := rfl
theorem pg_La_fullShare_1 : zprog 294 1 = [(11, .astore 2, []), (12, .iconst 1, []), (13, .ireturn, [])] := rfl
theorem pg_La_fullShare_2 : zprog 294 2 = [(14, .iconst 0, []), (15, .ireturn, [])] := rfl
theorem pg_La_law_0 : zprog 295 0 = [(0, .new 0, [5, 0]), (3, .dup, []), (4, .invokespecial 0, [58, 1]), (7, .astore 1, []), (8, .new 0, [6, 0]), (11, .dup, []), (12, .invokespecial 0, [155, 1]), (15, .astore 2, []), (16, .iconst 1, []), (17, .newarray .int, [3]), (19, .astore 3, []), (20, .iconst 1, []), (21, .newarray .int, [4]), (23, .astore 4, []), (25, .iconst 0, []), (26, .istore 5, []), (28, .nop, [1])] := rfl
theorem pg_La_law_1 : zprog 295 1 = [(28, .iload 5, []), (30, .aload 0, []), (31, .arraylength, []), (32, .iconst 10, []), (34, .isub, []), (35, .if_icmp .gt 0, [127]), (38, .aload 0, []), (39, .iload 5, []), (41, .iaload, []), (42, .iconst 63, []), (44, .iand, []), (45, .tableswitch 0 0 51 #[], [126, 2, 5, 8, 9, 10, 13, 16, 19, 20, 21, 24, 27, 30, 33, 36, 37, 38, 41, 44, 47, 50, 53, 56, 59, 62, 65, 66, 69, 70, 73, 76, 79, 82, 83, 86, 89, 90, 91, 92, 93, 96, 99, 102, 105, 108, 109, 110, 113, 116, 120, 124, 125])] := rfl
theorem pg_La_law_2 : zprog 295 2 = [(268, .aload 1, []), (269, .aload 0, []), (270, .iload 5, []), (272, .iconst 1, []), (273, .iadd, []), (274, .iaload, []), (275, .i2c, []), (276, .aload 3, []), (277, .invokestatic 0, [260, 3]), (280, .istore 6, []), (282, .aload 2, []), (283, .aload 0, []), (284, .iload 5, []), (286, .iconst 1, []), (287, .iadd, []), (288, .iaload, []), (289, .i2c, []), (290, .invokevirtual 0, [161, 2, 6]), (293, .istore 7, []), (295, .aload 2, []), (296, .invokevirtual 0, [156, 1, 6]), (299, .iload 6, []), (301, .if_icmp .eq 0, [3]), (304, .iconst 0, []), (305, .ireturn, [2])] := rfl
theorem pg_La_law_3 : zprog 295 3 = [(306, .iload 6, []), (308, .ifCond .ne 0, [4]), (311, .aload 3, []), (312, .iconst 0, []), (313, .laload, []), (314, .iload 7, []), (316, .i2l, []), (317, .lcmp, []), (318, .ifCond .eq 0, [4]), (321, .iconst 0, []), (322, .ireturn, [2])] := rfl
theorem pg_La_law_4 : zprog 295 4 = [(323, .goto 0, [126])] := rfl
theorem pg_La_law_5 : zprog 295 5 = [(326, .aload 1, []), (327, .aload 0, []), (328, .iload 5, []), (330, .iconst 1, []), (331, .iadd, []), (332, .iaload, []), (333, .aload 0, []), (334, .iload 5, []), (336, .iconst 2, []), (337, .iadd, []), (338, .iaload, []), (339, .i2c, []), (340, .aload 0, []), (341, .iload 5, []), (343, .iconst 3, []), (344, .iadd, []), (345, .iaload, []), (346, .i2c, []), (347, .aload 0, []), (348, .iload 5, []), (350, .iconst 4, []), (351, .iadd, []), (352, .iaload, []), (353, .i2c, []), (354, .aload 0, []), (355, .iload 5, []), (357, .iconst 5, []), (358, .iadd, []), (359, .iaload, []), (360, .i2c, []), (361, .aload 0, []), (362, .iload 5, []), (364, .iconst 6, []), (366, .iadd, []), (367, .iaload, []), (368, .i2c, []), (369, .aload 0, []), (370, .iload 5, []), (372, .iconst 7, []), (374, .iadd, []), (375, .iaload, []), (376, .i2c, []), (377, .aload 0, []), (378, .iload 5, []), (380, .iconst 8, []), (382, .iadd, []), (383, .iaload, []), (384, .i2c, []), (385, .aload 0, []), (386, .iload 5, []), (388, .iconst 9, []), (390, .iadd, []), (391, .iaload, []), (392, .i2c, []), (393, .aload 3, []), (394, .invokestatic 0, [261, 11]), (397, .istore 6, []), (399, .aload 2, []), (400, .aload 0, []), (401, .iload 5, []), (403, .iconst 1, []), (404, .iadd, []), (405, .iaload, []), (406, .aload 0, []), (407, .iload 5, []), (409, .iconst 2, []), (410, .iadd, []), (411, .iaload, []), (412, .i2c, []), (413, .aload 0, []), (414, .iload 5, []), (416, .iconst 3, []), (417, .iadd, []), (418, .iaload, []), (419, .i2c, []), (420, .aload 0, []), (421, .iload 5, []), (423, .iconst 4, []), (424, .iadd, []), (425, .iaload, []), (426, .i2c, []), (427, .aload 0, []), (428, .iload 5, []), (430, .iconst 5, []), (431, .iadd, []), (432, .iaload, []), (433, .i2c, []), (434, .aload 0, []), (435, .iload 5, []), (437, .iconst 6, []), (439, .iadd, []), (440, .iaload, []), (441, .i2c, []), (442, .aload 0, []), (443, .iload 5, []), (445, .iconst 7, []), (447, .iadd, []), (448, .iaload, []), (449, .i2c, []), (450, .aload 0, []), (451, .iload 5, []), (453, .iconst 8, []), (455, .iadd, []), (456, .iaload, []), (457, .i2c, []), (458, .aload 0, []), (459, .iload 5, []), (461, .iconst 9, []), (463, .iadd, []), (464, .iaload, []), (465, .i2c, []), (466, .invokevirtual 0, [162, 10, 6]), (469, .istore 7, []), (471, .aload 2, []), (472, .invokevirtual 0, [156, 1, 6]), (475, .iload 6, []), (477, .if_icmp .eq 0, [6]), (480, .iconst 0, []), (481, .ireturn, [2])] := rfl
theorem pg_La_law_6 : zprog 295 6 = [(482, .iload 6, []), (484, .ifCond .ne 0, [7]), (487, .aload 3, []), (488, .iconst 0, []), (489, .laload, []), (490, .iload 7, []), (492, .i2l, []), (493, .lcmp, []), (494, .ifCond .eq 0, [7]), (497, .iconst 0, []), (498, .ireturn, [2])] := rfl
theorem pg_La_law_7 : zprog 295 7 = [(499, .goto 0, [126])] := rfl
theorem pg_La_law_8 : zprog 295 8 = [(502, .aload 1, []), (503, .invokevirtual 0, [61, 1, 5]), (506, .aload 2, []), (507, .invokevirtual 0, [163, 1, 6]), (510, .if_icmp .eq 0, [126]), (513, .iconst 0, []), (514, .ireturn, [2])] := rfl
theorem pg_La_law_9 : zprog 295 9 = [(515, .aload 1, []), (516, .invokevirtual 0, [62, 1, 5]), (519, .aload 2, []), (520, .invokevirtual 0, [164, 1, 6]), (523, .if_icmp .eq 0, [126]), (526, .iconst 0, []), (527, .ireturn, [2])] := rfl
theorem pg_La_law_10 : zprog 295 10 = [(528, .aload 1, []), (529, .aload 0, []), (530, .iload 5, []), (532, .iconst 1, []), (533, .iadd, []), (534, .iaload, []), (535, .aload 3, []), (536, .invokestatic 0, [262, 3]), (539, .istore 6, []), (541, .aload 2, []), (542, .aload 0, []), (543, .iload 5, []), (545, .iconst 1, []), (546, .iadd, []), (547, .iaload, []), (548, .invokevirtual 0, [165, 2, 6]), (551, .istore 7, []), (553, .aload 2, []), (554, .invokevirtual 0, [156, 1, 6]), (557, .iload 6, []), (559, .if_icmp .eq 0, [11]), (562, .iconst 0, []), (563, .ireturn, [2])] := rfl
theorem pg_La_law_11 : zprog 295 11 = [(564, .iload 6, []), (566, .ifCond .ne 0, [12]), (569, .aload 3, []), (570, .iconst 0, []), (571, .laload, []), (572, .iload 7, []), (574, .i2l, []), (575, .lcmp, []), (576, .ifCond .eq 0, [12]), (579, .iconst 0, []), (580, .ireturn, [2])] := rfl
theorem pg_La_law_12 : zprog 295 12 = [(581, .goto 0, [126])] := rfl
theorem pg_La_law_13 : zprog 295 13 = [(584, .aload 1, []), (585, .aload 0, []), (586, .iload 5, []), (588, .iconst 1, []), (589, .iadd, []), (590, .iaload, []), (591, .i2c, []), (592, .aload 0, []), (593, .iload 5, []), (595, .iconst 2, []), (596, .iadd, []), (597, .iaload, []), (598, .aload 3, []), (599, .invokestatic 0, [263, 4]), (602, .istore 6, []), (604, .aload 2, []), (605, .aload 0, []), (606, .iload 5, []), (608, .iconst 1, []), (609, .iadd, []), (610, .iaload, []), (611, .i2c, []), (612, .aload 0, []), (613, .iload 5, []), (615, .iconst 2, []), (616, .iadd, []), (617, .iaload, []), (618, .invokevirtual 0, [166, 3, 6]), (621, .istore 7, []), (623, .aload 2, []), (624, .invokevirtual 0, [156, 1, 6]), (627, .iload 6, []), (629, .if_icmp .eq 0, [14]), (632, .iconst 0, []), (633, .ireturn, [2])] := rfl
theorem pg_La_law_14 : zprog 295 14 = [(634, .iload 6, []), (636, .ifCond .ne 0, [15]), (639, .aload 3, []), (640, .iconst 0, []), (641, .laload, []), (642, .iload 7, []), (644, .i2l, []), (645, .lcmp, []), (646, .ifCond .eq 0, [15]), (649, .iconst 0, []), (650, .ireturn, [2])] := rfl
theorem pg_La_law_15 : zprog 295 15 = [(651, .goto 0, [126])] := rfl
theorem pg_La_law_16 : zprog 295 16 = [(654, .aload 1, []), (655, .aload 0, []), (656, .iload 5, []), (658, .iconst 1, []), (659, .iadd, []), (660, .iaload, []), (661, .i2c, []), (662, .aload 3, []), (663, .invokestatic 0, [264, 3]), (666, .istore 6, []), (668, .aload 2, []), (669, .aload 0, []), (670, .iload 5, []), (672, .iconst 1, []), (673, .iadd, []), (674, .iaload, []), (675, .i2c, []), (676, .invokevirtual 0, [167, 2, 6]), (679, .istore 7, []), (681, .aload 2, []), (682, .invokevirtual 0, [156, 1, 6]), (685, .iload 6, []), (687, .if_icmp .eq 0, [17]), (690, .iconst 0, []), (691, .ireturn, [2])] := rfl
theorem pg_La_law_17 : zprog 295 17 = [(692, .iload 6, []), (694, .ifCond .ne 0, [18]), (697, .aload 3, []), (698, .iconst 0, []), (699, .laload, []), (700, .iload 7, []), (702, .i2l, []), (703, .lcmp, []), (704, .ifCond .eq 0, [18]), (707, .iconst 0, []), (708, .ireturn, [2])] := rfl
theorem pg_La_law_18 : zprog 295 18 = [(709, .goto 0, [126])] := rfl
theorem pg_La_law_19 : zprog 295 19 = [(712, .aload 1, []), (713, .invokevirtual 0, [66, 1, 5]), (716, .aload 2, []), (717, .invokevirtual 0, [170, 1, 6]), (720, .if_icmp .eq 0, [126]), (723, .iconst 0, []), (724, .ireturn, [2])] := rfl
theorem pg_La_law_20 : zprog 295 20 = [(725, .aload 1, []), (726, .invokevirtual 0, [67, 1, 5]), (729, .aload 2, []), (730, .invokevirtual 0, [171, 1, 6]), (733, .if_icmp .eq 0, [126]), (736, .iconst 0, []), (737, .ireturn, [2])] := rfl
theorem pg_La_law_21 : zprog 295 21 = [(738, .aload 1, []), (739, .aload 3, []), (740, .invokestatic 0, [265, 2]), (743, .istore 6, []), (745, .aload 2, []), (746, .invokevirtual 0, [181, 1, 6]), (749, .istore 7, []), (751, .aload 2, []), (752, .invokevirtual 0, [156, 1, 6]), (755, .iload 6, []), (757, .if_icmp .eq 0, [22]), (760, .iconst 0, []), (761, .ireturn, [2])] := rfl
theorem pg_La_law_22 : zprog 295 22 = [(762, .iload 6, []), (764, .ifCond .ne 0, [23]), (767, .aload 3, []), (768, .iconst 0, []), (769, .laload, []), (770, .iload 7, []), (772, .i2l, []), (773, .lcmp, []), (774, .ifCond .eq 0, [23]), (777, .iconst 0, []), (778, .ireturn, [2])] := rfl
theorem pg_La_law_23 : zprog 295 23 = [(779, .goto 0, [126])] := rfl
theorem pg_La_law_24 : zprog 295 24 = [(782, .aload 1, []), (783, .aload 0, []), (784, .iload 5, []), (786, .iconst 1, []), (787, .iadd, []), (788, .iaload, []), (789, .aload 3, []), (790, .invokestatic 0, [266, 3]), (793, .istore 6, []), (795, .aload 2, []), (796, .aload 0, []), (797, .iload 5, []), (799, .iconst 1, []), (800, .iadd, []), (801, .iaload, []), (802, .invokevirtual 0, [183, 2, 6]), (805, .istore 7, []), (807, .aload 2, []), (808, .invokevirtual 0, [156, 1, 6]), (811, .iload 6, []), (813, .if_icmp .eq 0, [25]), (816, .iconst 0, []), (817, .ireturn, [2])] := rfl
theorem pg_La_law_25 : zprog 295 25 = [(818, .iload 6, []), (820, .ifCond .ne 0, [26]), (823, .aload 3, []), (824, .iconst 0, []), (825, .laload, []), (826, .iload 7, []), (828, .i2l, []), (829, .lcmp, []), (830, .ifCond .eq 0, [26]), (833, .iconst 0, []), (834, .ireturn, [2])] := rfl
theorem pg_La_law_26 : zprog 295 26 = [(835, .goto 0, [126])] := rfl
theorem pg_La_law_27 : zprog 295 27 = [(838, .aload 1, []), (839, .aload 3, []), (840, .invokestatic 0, [267, 2]), (843, .istore 6, []), (845, .aload 2, []), (846, .invokevirtual 0, [184, 1, 6]), (849, .istore 7, []), (851, .aload 2, []), (852, .invokevirtual 0, [156, 1, 6]), (855, .iload 6, []), (857, .if_icmp .eq 0, [28]), (860, .iconst 0, []), (861, .ireturn, [2])] := rfl
theorem pg_La_law_28 : zprog 295 28 = [(862, .iload 6, []), (864, .ifCond .ne 0, [29]), (867, .aload 3, []), (868, .iconst 0, []), (869, .laload, []), (870, .iload 7, []), (872, .i2l, []), (873, .lcmp, []), (874, .ifCond .eq 0, [29]), (877, .iconst 0, []), (878, .ireturn, [2])] := rfl
theorem pg_La_law_29 : zprog 295 29 = [(879, .goto 0, [126])] := rfl
theorem pg_La_law_30 : zprog 295 30 = [(882, .aload 1, []), (883, .aload 3, []), (884, .invokestatic 0, [268, 2]), (887, .istore 6, []), (889, .aload 2, []), (890, .invokevirtual 0, [185, 1, 6]), (893, .istore 7, []), (895, .aload 2, []), (896, .invokevirtual 0, [156, 1, 6]), (899, .iload 6, []), (901, .if_icmp .eq 0, [31]), (904, .iconst 0, []), (905, .ireturn, [2])] := rfl
theorem pg_La_law_31 : zprog 295 31 = [(906, .iload 6, []), (908, .ifCond .ne 0, [32]), (911, .aload 3, []), (912, .iconst 0, []), (913, .laload, []), (914, .iload 7, []), (916, .i2l, []), (917, .lcmp, []), (918, .ifCond .eq 0, [32]), (921, .iconst 0, []), (922, .ireturn, [2])] := rfl
theorem pg_La_law_32 : zprog 295 32 = [(923, .goto 0, [126])] := rfl
theorem pg_La_law_33 : zprog 295 33 = [(926, .aload 1, []), (927, .aload 3, []), (928, .invokestatic 0, [269, 2]), (931, .istore 6, []), (933, .aload 2, []), (934, .invokevirtual 0, [187, 1, 6]), (937, .istore 7, []), (939, .aload 2, []), (940, .invokevirtual 0, [156, 1, 6]), (943, .iload 6, []), (945, .if_icmp .eq 0, [34]), (948, .iconst 0, []), (949, .ireturn, [2])] := rfl
theorem pg_La_law_34 : zprog 295 34 = [(950, .iload 6, []), (952, .ifCond .ne 0, [35]), (955, .aload 3, []), (956, .iconst 0, []), (957, .laload, []), (958, .iload 7, []), (960, .i2l, []), (961, .lcmp, []), (962, .ifCond .eq 0, [35]), (965, .iconst 0, []), (966, .ireturn, [2])] := rfl
theorem pg_La_law_35 : zprog 295 35 = [(967, .goto 0, [126])] := rfl
theorem pg_La_law_36 : zprog 295 36 = [(970, .aload 1, []), (971, .invokevirtual 0, [73, 1, 5]), (974, .aload 2, []), (975, .invokevirtual 0, [188, 1, 6]), (978, .if_icmp .eq 0, [126]), (981, .iconst 0, []), (982, .ireturn, [2])] := rfl
theorem pg_La_law_37 : zprog 295 37 = [(983, .aload 1, []), (984, .invokevirtual 0, [74, 1, 5]), (987, .aload 2, []), (988, .invokevirtual 0, [189, 1, 6]), (991, .if_icmp .eq 0, [126]), (994, .iconst 0, []), (995, .ireturn, [2])] := rfl
theorem pg_La_law_38 : zprog 295 38 = [(996, .aload 1, []), (997, .aload 0, []), (998, .iload 5, []), (1000, .iconst 1, []), (1001, .iadd, []), (1002, .iaload, []), (1003, .aload 3, []), (1004, .invokestatic 0, [270, 3]), (1007, .istore 6, []), (1009, .aload 2, []), (1010, .aload 0, []), (1011, .iload 5, []), (1013, .iconst 1, []), (1014, .iadd, []), (1015, .iaload, []), (1016, .invokevirtual 0, [190, 2, 6]), (1019, .istore 7, []), (1021, .aload 2, []), (1022, .invokevirtual 0, [156, 1, 6]), (1025, .iload 6, []), (1027, .if_icmp .eq 0, [39]), (1030, .iconst 0, []), (1031, .ireturn, [2])] := rfl
theorem pg_La_law_39 : zprog 295 39 = [(1032, .iload 6, []), (1034, .ifCond .ne 0, [40]), (1037, .aload 3, []), (1038, .iconst 0, []), (1039, .laload, []), (1040, .iload 7, []), (1042, .i2l, []), (1043, .lcmp, []), (1044, .ifCond .eq 0, [40]), (1047, .iconst 0, []), (1048, .ireturn, [2])] := rfl
theorem pg_La_law_40 : zprog 295 40 = [(1049, .goto 0, [126])] := rfl
theorem pg_La_law_41 : zprog 295 41 = [(1052, .aload 1, []), (1053, .aload 0, []), (1054, .iload 5, []), (1056, .iconst 1, []), (1057, .iadd, []), (1058, .iaload, []), (1059, .aload 3, []), (1060, .invokestatic 0, [271, 3]), (1063, .istore 6, []), (1065, .aload 2, []), (1066, .aload 0, []), (1067, .iload 5, []), (1069, .iconst 1, []), (1070, .iadd, []), (1071, .iaload, []), (1072, .invokevirtual 0, [191, 2, 6]), (1075, .istore 7, []), (1077, .aload 2, []), (1078, .invokevirtual 0, [156, 1, 6]), (1081, .iload 6, []), (1083, .if_icmp .eq 0, [42]), (1086, .iconst 0, []), (1087, .ireturn, [2])] := rfl
theorem pg_La_law_42 : zprog 295 42 = [(1088, .iload 6, []), (1090, .ifCond .ne 0, [43]), (1093, .aload 3, []), (1094, .iconst 0, []), (1095, .laload, []), (1096, .iload 7, []), (1098, .i2l, []), (1099, .lcmp, []), (1100, .ifCond .eq 0, [43]), (1103, .iconst 0, []), (1104, .ireturn, [2])] := rfl
theorem pg_La_law_43 : zprog 295 43 = [(1105, .goto 0, [126])] := rfl
theorem pg_La_law_44 : zprog 295 44 = [(1108, .aload 1, []), (1109, .aload 0, []), (1110, .iload 5, []), (1112, .iconst 1, []), (1113, .iadd, []), (1114, .iaload, []), (1115, .aload 0, []), (1116, .iload 5, []), (1118, .iconst 2, []), (1119, .iadd, []), (1120, .iaload, []), (1121, .aload 3, []), (1122, .invokestatic 0, [272, 4]), (1125, .istore 6, []), (1127, .aload 2, []), (1128, .aload 0, []), (1129, .iload 5, []), (1131, .iconst 1, []), (1132, .iadd, []), (1133, .iaload, []), (1134, .aload 0, []), (1135, .iload 5, []), (1137, .iconst 2, []), (1138, .iadd, []), (1139, .iaload, []), (1140, .invokevirtual 0, [194, 3, 6]), (1143, .istore 7, []), (1145, .aload 2, []), (1146, .invokevirtual 0, [156, 1, 6]), (1149, .iload 6, []), (1151, .if_icmp .eq 0, [45]), (1154, .iconst 0, []), (1155, .ireturn, [2])] := rfl
theorem pg_La_law_45 : zprog 295 45 = [(1156, .iload 6, []), (1158, .ifCond .ne 0, [46]), (1161, .aload 3, []), (1162, .iconst 0, []), (1163, .laload, []), (1164, .iload 7, []), (1166, .i2l, []), (1167, .lcmp, []), (1168, .ifCond .eq 0, [46]), (1171, .iconst 0, []), (1172, .ireturn, [2])] := rfl
theorem pg_La_law_46 : zprog 295 46 = [(1173, .goto 0, [126])] := rfl
theorem pg_La_law_47 : zprog 295 47 = [(1176, .aload 1, []), (1177, .aload 0, []), (1178, .iload 5, []), (1180, .iconst 1, []), (1181, .iadd, []), (1182, .iaload, []), (1183, .aload 0, []), (1184, .iload 5, []), (1186, .iconst 2, []), (1187, .iadd, []), (1188, .iaload, []), (1189, .i2c, []), (1190, .aload 3, []), (1191, .invokestatic 0, [273, 4]), (1194, .istore 6, []), (1196, .aload 2, []), (1197, .aload 0, []), (1198, .iload 5, []), (1200, .iconst 1, []), (1201, .iadd, []), (1202, .iaload, []), (1203, .aload 0, []), (1204, .iload 5, []), (1206, .iconst 2, []), (1207, .iadd, []), (1208, .iaload, []), (1209, .i2c, []), (1210, .invokevirtual 0, [196, 3, 6]), (1213, .istore 7, []), (1215, .aload 2, []), (1216, .invokevirtual 0, [156, 1, 6]), (1219, .iload 6, []), (1221, .if_icmp .eq 0, [48]), (1224, .iconst 0, []), (1225, .ireturn, [2])] := rfl
theorem pg_La_law_48 : zprog 295 48 = [(1226, .iload 6, []), (1228, .ifCond .ne 0, [49]), (1231, .aload 3, []), (1232, .iconst 0, []), (1233, .laload, []), (1234, .iload 7, []), (1236, .i2l, []), (1237, .lcmp, []), (1238, .ifCond .eq 0, [49]), (1241, .iconst 0, []), (1242, .ireturn, [2])] := rfl
theorem pg_La_law_49 : zprog 295 49 = [(1243, .goto 0, [126])] := rfl
theorem pg_La_law_50 : zprog 295 50 = [(1246, .aload 1, []), (1247, .aload 0, []), (1248, .iload 5, []), (1250, .iconst 1, []), (1251, .iadd, []), (1252, .iaload, []), (1253, .aload 0, []), (1254, .iload 5, []), (1256, .iconst 2, []), (1257, .iadd, []), (1258, .iaload, []), (1259, .i2c, []), (1260, .aload 0, []), (1261, .iload 5, []), (1263, .iconst 3, []), (1264, .iadd, []), (1265, .iaload, []), (1266, .aload 3, []), (1267, .invokestatic 0, [274, 5]), (1270, .istore 6, []), (1272, .aload 2, []), (1273, .aload 0, []), (1274, .iload 5, []), (1276, .iconst 1, []), (1277, .iadd, []), (1278, .iaload, []), (1279, .aload 0, []), (1280, .iload 5, []), (1282, .iconst 2, []), (1283, .iadd, []), (1284, .iaload, []), (1285, .i2c, []), (1286, .aload 0, []), (1287, .iload 5, []), (1289, .iconst 3, []), (1290, .iadd, []), (1291, .iaload, []), (1292, .invokevirtual 0, [197, 4, 6]), (1295, .istore 7, []), (1297, .aload 2, []), (1298, .invokevirtual 0, [156, 1, 6]), (1301, .iload 6, []), (1303, .if_icmp .eq 0, [51]), (1306, .iconst 0, []), (1307, .ireturn, [2])] := rfl
theorem pg_La_law_51 : zprog 295 51 = [(1308, .iload 6, []), (1310, .ifCond .ne 0, [52]), (1313, .aload 3, []), (1314, .iconst 0, []), (1315, .laload, []), (1316, .iload 7, []), (1318, .i2l, []), (1319, .lcmp, []), (1320, .ifCond .eq 0, [52]), (1323, .iconst 0, []), (1324, .ireturn, [2])] := rfl
theorem pg_La_law_52 : zprog 295 52 = [(1325, .goto 0, [126])] := rfl
theorem pg_La_law_53 : zprog 295 53 = [(1328, .aload 1, []), (1329, .aload 0, []), (1330, .iload 5, []), (1332, .iconst 1, []), (1333, .iadd, []), (1334, .iaload, []), (1335, .aload 3, []), (1336, .invokestatic 0, [275, 3]), (1339, .istore 6, []), (1341, .aload 2, []), (1342, .aload 0, []), (1343, .iload 5, []), (1345, .iconst 1, []), (1346, .iadd, []), (1347, .iaload, []), (1348, .invokevirtual 0, [198, 2, 6]), (1351, .istore 7, []), (1353, .aload 2, []), (1354, .invokevirtual 0, [156, 1, 6]), (1357, .iload 6, []), (1359, .if_icmp .eq 0, [54]), (1362, .iconst 0, []), (1363, .ireturn, [2])] := rfl
theorem pg_La_law_54 : zprog 295 54 = [(1364, .iload 6, []), (1366, .ifCond .ne 0, [55]), (1369, .aload 3, []), (1370, .iconst 0, []), (1371, .laload, []), (1372, .iload 7, []), (1374, .i2l, []), (1375, .lcmp, []), (1376, .ifCond .eq 0, [55]), (1379, .iconst 0, []), (1380, .ireturn, [2])] := rfl
theorem pg_La_law_55 : zprog 295 55 = [(1381, .goto 0, [126])] := rfl
theorem pg_La_law_56 : zprog 295 56 = [(1384, .aload 1, []), (1385, .aload 0, []), (1386, .iload 5, []), (1388, .iconst 1, []), (1389, .iadd, []), (1390, .iaload, []), (1391, .aload 3, []), (1392, .invokestatic 0, [276, 3]), (1395, .istore 6, []), (1397, .aload 2, []), (1398, .aload 0, []), (1399, .iload 5, []), (1401, .iconst 1, []), (1402, .iadd, []), (1403, .iaload, []), (1404, .invokevirtual 0, [200, 2, 6]), (1407, .istore 7, []), (1409, .aload 2, []), (1410, .invokevirtual 0, [156, 1, 6]), (1413, .iload 6, []), (1415, .if_icmp .eq 0, [57]), (1418, .iconst 0, []), (1419, .ireturn, [2])] := rfl
theorem pg_La_law_57 : zprog 295 57 = [(1420, .iload 6, []), (1422, .ifCond .ne 0, [58]), (1425, .aload 3, []), (1426, .iconst 0, []), (1427, .laload, []), (1428, .iload 7, []), (1430, .i2l, []), (1431, .lcmp, []), (1432, .ifCond .eq 0, [58]), (1435, .iconst 0, []), (1436, .ireturn, [2])] := rfl
theorem pg_La_law_58 : zprog 295 58 = [(1437, .goto 0, [126])] := rfl
theorem pg_La_law_59 : zprog 295 59 = [(1440, .aload 1, []), (1441, .aload 0, []), (1442, .iload 5, []), (1444, .iconst 1, []), (1445, .iadd, []), (1446, .iaload, []), (1447, .aload 3, []), (1448, .invokestatic 0, [277, 3]), (1451, .istore 6, []), (1453, .aload 2, []), (1454, .aload 0, []), (1455, .iload 5, []), (1457, .iconst 1, []), (1458, .iadd, []), (1459, .iaload, []), (1460, .invokevirtual 0, [201, 2, 6]), (1463, .lstore 7, []), (1465, .aload 2, []), (1466, .invokevirtual 0, [156, 1, 6]), (1469, .iload 6, []), (1471, .if_icmp .eq 0, [60]), (1474, .iconst 0, []), (1475, .ireturn, [2])] := rfl
theorem pg_La_law_60 : zprog 295 60 = [(1476, .iload 6, []), (1478, .ifCond .ne 0, [61]), (1481, .aload 3, []), (1482, .iconst 0, []), (1483, .laload, []), (1484, .lload 7, []), (1486, .lcmp, []), (1487, .ifCond .eq 0, [61]), (1490, .iconst 0, []), (1491, .ireturn, [2])] := rfl
theorem pg_La_law_61 : zprog 295 61 = [(1492, .goto 0, [126])] := rfl
theorem pg_La_law_62 : zprog 295 62 = [(1495, .aload 1, []), (1496, .aload 0, []), (1497, .iload 5, []), (1499, .iconst 1, []), (1500, .iadd, []), (1501, .iaload, []), (1502, .aload 0, []), (1503, .iload 5, []), (1505, .iconst 2, []), (1506, .iadd, []), (1507, .iaload, []), (1508, .aload 0, []), (1509, .iload 5, []), (1511, .iconst 3, []), (1512, .iadd, []), (1513, .iaload, []), (1514, .aload 3, []), (1515, .invokestatic 0, [278, 5]), (1518, .istore 6, []), (1520, .aload 2, []), (1521, .aload 0, []), (1522, .iload 5, []), (1524, .iconst 1, []), (1525, .iadd, []), (1526, .iaload, []), (1527, .aload 0, []), (1528, .iload 5, []), (1530, .iconst 2, []), (1531, .iadd, []), (1532, .iaload, []), (1533, .aload 0, []), (1534, .iload 5, []), (1536, .iconst 3, []), (1537, .iadd, []), (1538, .iaload, []), (1539, .invokevirtual 0, [202, 4, 6]), (1542, .istore 7, []), (1544, .aload 2, []), (1545, .invokevirtual 0, [156, 1, 6]), (1548, .iload 6, []), (1550, .if_icmp .eq 0, [63]), (1553, .iconst 0, []), (1554, .ireturn, [2])] := rfl
theorem pg_La_law_63 : zprog 295 63 = [(1555, .iload 6, []), (1557, .ifCond .ne 0, [64]), (1560, .aload 3, []), (1561, .iconst 0, []), (1562, .laload, []), (1563, .iload 7, []), (1565, .i2l, []), (1566, .lcmp, []), (1567, .ifCond .eq 0, [64]), (1570, .iconst 0, []), (1571, .ireturn, [2])] := rfl
theorem pg_La_law_64 : zprog 295 64 = [(1572, .goto 0, [126])] := rfl
theorem pg_La_law_65 : zprog 295 65 = [(1575, .aload 1, []), (1576, .invokevirtual 0, [84, 1, 5]), (1579, .aload 2, []), (1580, .invokevirtual 0, [204, 1, 6]), (1583, .if_icmp .eq 0, [126]), (1586, .iconst 0, []), (1587, .ireturn, [2])] := rfl
theorem pg_La_law_66 : zprog 295 66 = [(1588, .aload 1, []), (1589, .aload 0, []), (1590, .iload 5, []), (1592, .iconst 1, []), (1593, .iadd, []), (1594, .iaload, []), (1595, .aload 3, []), (1596, .invokestatic 0, [279, 3]), (1599, .istore 6, []), (1601, .aload 2, []), (1602, .aload 0, []), (1603, .iload 5, []), (1605, .iconst 1, []), (1606, .iadd, []), (1607, .iaload, []), (1608, .invokevirtual 0, [205, 2, 6]), (1611, .istore 7, []), (1613, .aload 2, []), (1614, .invokevirtual 0, [156, 1, 6]), (1617, .iload 6, []), (1619, .if_icmp .eq 0, [67]), (1622, .iconst 0, []), (1623, .ireturn, [2])] := rfl
theorem pg_La_law_67 : zprog 295 67 = [(1624, .iload 6, []), (1626, .ifCond .ne 0, [68]), (1629, .aload 3, []), (1630, .iconst 0, []), (1631, .laload, []), (1632, .iload 7, []), (1634, .i2l, []), (1635, .lcmp, []), (1636, .ifCond .eq 0, [68]), (1639, .iconst 0, []), (1640, .ireturn, [2])] := rfl
theorem pg_La_law_68 : zprog 295 68 = [(1641, .goto 0, [126])] := rfl
theorem pg_La_law_69 : zprog 295 69 = [(1644, .aload 1, []), (1645, .invokevirtual 0, [86, 1, 5]), (1648, .aload 2, []), (1649, .invokevirtual 0, [206, 1, 6]), (1652, .if_icmp .eq 0, [126]), (1655, .iconst 0, []), (1656, .ireturn, [2])] := rfl
theorem pg_La_law_70 : zprog 295 70 = [(1657, .aload 1, []), (1658, .aload 0, []), (1659, .iload 5, []), (1661, .iconst 1, []), (1662, .iadd, []), (1663, .iaload, []), (1664, .aload 3, []), (1665, .invokestatic 0, [280, 3]), (1668, .istore 6, []), (1670, .aload 2, []), (1671, .aload 0, []), (1672, .iload 5, []), (1674, .iconst 1, []), (1675, .iadd, []), (1676, .iaload, []), (1677, .invokevirtual 0, [208, 2, 6]), (1680, .istore 7, []), (1682, .aload 2, []), (1683, .invokevirtual 0, [156, 1, 6]), (1686, .iload 6, []), (1688, .if_icmp .eq 0, [71]), (1691, .iconst 0, []), (1692, .ireturn, [2])] := rfl
theorem pg_La_law_71 : zprog 295 71 = [(1693, .iload 6, []), (1695, .ifCond .ne 0, [72]), (1698, .aload 3, []), (1699, .iconst 0, []), (1700, .laload, []), (1701, .iload 7, []), (1703, .i2l, []), (1704, .lcmp, []), (1705, .ifCond .eq 0, [72]), (1708, .iconst 0, []), (1709, .ireturn, [2])] := rfl
theorem pg_La_law_72 : zprog 295 72 = [(1710, .goto 0, [126])] := rfl
theorem pg_La_law_73 : zprog 295 73 = [(1713, .aload 1, []), (1714, .aload 0, []), (1715, .iload 5, []), (1717, .iconst 1, []), (1718, .iadd, []), (1719, .iaload, []), (1720, .aload 3, []), (1721, .invokestatic 0, [281, 3]), (1724, .istore 6, []), (1726, .aload 2, []), (1727, .aload 0, []), (1728, .iload 5, []), (1730, .iconst 1, []), (1731, .iadd, []), (1732, .iaload, []), (1733, .invokevirtual 0, [210, 2, 6]), (1736, .istore 7, []), (1738, .aload 2, []), (1739, .invokevirtual 0, [156, 1, 6]), (1742, .iload 6, []), (1744, .if_icmp .eq 0, [74]), (1747, .iconst 0, []), (1748, .ireturn, [2])] := rfl
theorem pg_La_law_74 : zprog 295 74 = [(1749, .iload 6, []), (1751, .ifCond .ne 0, [75]), (1754, .aload 3, []), (1755, .iconst 0, []), (1756, .laload, []), (1757, .iload 7, []), (1759, .i2l, []), (1760, .lcmp, []), (1761, .ifCond .eq 0, [75]), (1764, .iconst 0, []), (1765, .ireturn, [2])] := rfl
theorem pg_La_law_75 : zprog 295 75 = [(1766, .goto 0, [126])] := rfl
theorem pg_La_law_76 : zprog 295 76 = [(1769, .aload 1, []), (1770, .aload 0, []), (1771, .iload 5, []), (1773, .iconst 1, []), (1774, .iadd, []), (1775, .iaload, []), (1776, .aload 0, []), (1777, .iload 5, []), (1779, .iconst 2, []), (1780, .iadd, []), (1781, .iaload, []), (1782, .aload 3, []), (1783, .invokestatic 0, [282, 4]), (1786, .istore 6, []), (1788, .aload 2, []), (1789, .aload 0, []), (1790, .iload 5, []), (1792, .iconst 1, []), (1793, .iadd, []), (1794, .iaload, []), (1795, .aload 0, []), (1796, .iload 5, []), (1798, .iconst 2, []), (1799, .iadd, []), (1800, .iaload, []), (1801, .invokevirtual 0, [211, 3, 6]), (1804, .istore 7, []), (1806, .aload 2, []), (1807, .invokevirtual 0, [156, 1, 6]), (1810, .iload 6, []), (1812, .if_icmp .eq 0, [77]), (1815, .iconst 0, []), (1816, .ireturn, [2])] := rfl
theorem pg_La_law_77 : zprog 295 77 = [(1817, .iload 6, []), (1819, .ifCond .ne 0, [78]), (1822, .aload 3, []), (1823, .iconst 0, []), (1824, .laload, []), (1825, .iload 7, []), (1827, .i2l, []), (1828, .lcmp, []), (1829, .ifCond .eq 0, [78]), (1832, .iconst 0, []), (1833, .ireturn, [2])] := rfl
theorem pg_La_law_78 : zprog 295 78 = [(1834, .goto 0, [126])] := rfl
theorem pg_La_law_79 : zprog 295 79 = [(1837, .aload 1, []), (1838, .aload 0, []), (1839, .iload 5, []), (1841, .iconst 1, []), (1842, .iadd, []), (1843, .iaload, []), (1844, .aload 3, []), (1845, .invokestatic 0, [283, 3]), (1848, .istore 6, []), (1850, .aload 2, []), (1851, .aload 0, []), (1852, .iload 5, []), (1854, .iconst 1, []), (1855, .iadd, []), (1856, .iaload, []), (1857, .invokevirtual 0, [213, 2, 6]), (1860, .istore 7, []), (1862, .aload 2, []), (1863, .invokevirtual 0, [156, 1, 6]), (1866, .iload 6, []), (1868, .if_icmp .eq 0, [80]), (1871, .iconst 0, []), (1872, .ireturn, [2])] := rfl
theorem pg_La_law_80 : zprog 295 80 = [(1873, .iload 6, []), (1875, .ifCond .ne 0, [81]), (1878, .aload 3, []), (1879, .iconst 0, []), (1880, .laload, []), (1881, .iload 7, []), (1883, .i2l, []), (1884, .lcmp, []), (1885, .ifCond .eq 0, [81]), (1888, .iconst 0, []), (1889, .ireturn, [2])] := rfl
theorem pg_La_law_81 : zprog 295 81 = [(1890, .goto 0, [126])] := rfl
theorem pg_La_law_82 : zprog 295 82 = [(1893, .aload 1, []), (1894, .invokevirtual 0, [91, 1, 5]), (1897, .aload 2, []), (1898, .invokevirtual 0, [214, 1, 6]), (1901, .if_icmp .eq 0, [126]), (1904, .iconst 0, []), (1905, .ireturn, [2])] := rfl
theorem pg_La_law_83 : zprog 295 83 = [(1906, .aload 1, []), (1907, .aload 0, []), (1908, .iload 5, []), (1910, .iconst 1, []), (1911, .iadd, []), (1912, .iaload, []), (1913, .aload 3, []), (1914, .invokestatic 0, [284, 3]), (1917, .istore 6, []), (1919, .aload 2, []), (1920, .aload 0, []), (1921, .iload 5, []), (1923, .iconst 1, []), (1924, .iadd, []), (1925, .iaload, []), (1926, .invokevirtual 0, [218, 2, 6]), (1929, .istore 7, []), (1931, .aload 2, []), (1932, .invokevirtual 0, [156, 1, 6]), (1935, .iload 6, []), (1937, .if_icmp .eq 0, [84]), (1940, .iconst 0, []), (1941, .ireturn, [2])] := rfl
theorem pg_La_law_84 : zprog 295 84 = [(1942, .iload 6, []), (1944, .ifCond .ne 0, [85]), (1947, .aload 3, []), (1948, .iconst 0, []), (1949, .laload, []), (1950, .iload 7, []), (1952, .i2l, []), (1953, .lcmp, []), (1954, .ifCond .eq 0, [85]), (1957, .iconst 0, []), (1958, .ireturn, [2])] := rfl
theorem pg_La_law_85 : zprog 295 85 = [(1959, .goto 0, [126])] := rfl
theorem pg_La_law_86 : zprog 295 86 = [(1962, .aload 1, []), (1963, .aload 0, []), (1964, .iload 5, []), (1966, .iconst 1, []), (1967, .iadd, []), (1968, .iaload, []), (1969, .aload 3, []), (1970, .invokestatic 0, [285, 3]), (1973, .istore 6, []), (1975, .aload 2, []), (1976, .aload 0, []), (1977, .iload 5, []), (1979, .iconst 1, []), (1980, .iadd, []), (1981, .iaload, []), (1982, .invokevirtual 0, [219, 2, 6]), (1985, .istore 7, []), (1987, .aload 2, []), (1988, .invokevirtual 0, [156, 1, 6]), (1991, .iload 6, []), (1993, .if_icmp .eq 0, [87]), (1996, .iconst 0, []), (1997, .ireturn, [2])] := rfl
theorem pg_La_law_87 : zprog 295 87 = [(1998, .iload 6, []), (2000, .ifCond .ne 0, [88]), (2003, .aload 3, []), (2004, .iconst 0, []), (2005, .laload, []), (2006, .iload 7, []), (2008, .i2l, []), (2009, .lcmp, []), (2010, .ifCond .eq 0, [88]), (2013, .iconst 0, []), (2014, .ireturn, [2])] := rfl
theorem pg_La_law_88 : zprog 295 88 = [(2015, .goto 0, [126])] := rfl
theorem pg_La_law_89 : zprog 295 89 = [(2018, .aload 1, []), (2019, .invokevirtual 0, [94, 1, 5]), (2022, .aload 2, []), (2023, .invokevirtual 0, [224, 1, 6]), (2026, .if_icmp .eq 0, [126]), (2029, .iconst 0, []), (2030, .ireturn, [2])] := rfl
theorem pg_La_law_90 : zprog 295 90 = [(2031, .aload 1, []), (2032, .invokevirtual 0, [95, 1, 5]), (2035, .aload 2, []), (2036, .invokevirtual 0, [225, 1, 6]), (2039, .if_icmp .eq 0, [126]), (2042, .iconst 0, []), (2043, .ireturn, [2])] := rfl
theorem pg_La_law_91 : zprog 295 91 = [(2044, .aload 1, []), (2045, .invokevirtual 0, [96, 1, 5]), (2048, .aload 2, []), (2049, .invokevirtual 0, [226, 1, 6]), (2052, .if_icmp .eq 0, [126]), (2055, .iconst 0, []), (2056, .ireturn, [2])] := rfl
theorem pg_La_law_92 : zprog 295 92 = [(2057, .aload 1, []), (2058, .invokevirtual 0, [97, 1, 5]), (2061, .aload 2, []), (2062, .invokevirtual 0, [227, 1, 6]), (2065, .if_icmp .eq 0, [126]), (2068, .iconst 0, []), (2069, .ireturn, [2])] := rfl
theorem pg_La_law_93 : zprog 295 93 = [(2070, .aload 1, []), (2071, .aload 0, []), (2072, .iload 5, []), (2074, .iconst 1, []), (2075, .iadd, []), (2076, .iaload, []), (2077, .aload 3, []), (2078, .invokestatic 0, [286, 3]), (2081, .istore 6, []), (2083, .aload 2, []), (2084, .aload 0, []), (2085, .iload 5, []), (2087, .iconst 1, []), (2088, .iadd, []), (2089, .iaload, []), (2090, .invokevirtual 0, [228, 2, 6]), (2093, .istore 7, []), (2095, .aload 2, []), (2096, .invokevirtual 0, [156, 1, 6]), (2099, .iload 6, []), (2101, .if_icmp .eq 0, [94]), (2104, .iconst 0, []), (2105, .ireturn, [2])] := rfl
theorem pg_La_law_94 : zprog 295 94 = [(2106, .iload 6, []), (2108, .ifCond .ne 0, [95]), (2111, .aload 3, []), (2112, .iconst 0, []), (2113, .laload, []), (2114, .iload 7, []), (2116, .i2l, []), (2117, .lcmp, []), (2118, .ifCond .eq 0, [95]), (2121, .iconst 0, []), (2122, .ireturn, [2])] := rfl
theorem pg_La_law_95 : zprog 295 95 = [(2123, .goto 0, [126])] := rfl
theorem pg_La_law_96 : zprog 295 96 = [(2126, .aload 1, []), (2127, .aload 0, []), (2128, .iload 5, []), (2130, .iconst 1, []), (2131, .iadd, []), (2132, .iaload, []), (2133, .aload 3, []), (2134, .invokestatic 0, [287, 3]), (2137, .istore 6, []), (2139, .aload 2, []), (2140, .aload 0, []), (2141, .iload 5, []), (2143, .iconst 1, []), (2144, .iadd, []), (2145, .iaload, []), (2146, .invokevirtual 0, [229, 2, 6]), (2149, .istore 7, []), (2151, .aload 2, []), (2152, .invokevirtual 0, [156, 1, 6]), (2155, .iload 6, []), (2157, .if_icmp .eq 0, [97]), (2160, .iconst 0, []), (2161, .ireturn, [2])] := rfl
theorem pg_La_law_97 : zprog 295 97 = [(2162, .iload 6, []), (2164, .ifCond .ne 0, [98]), (2167, .aload 3, []), (2168, .iconst 0, []), (2169, .laload, []), (2170, .iload 7, []), (2172, .i2l, []), (2173, .lcmp, []), (2174, .ifCond .eq 0, [98]), (2177, .iconst 0, []), (2178, .ireturn, [2])] := rfl
theorem pg_La_law_98 : zprog 295 98 = [(2179, .goto 0, [126])] := rfl
theorem pg_La_law_99 : zprog 295 99 = [(2182, .aload 1, []), (2183, .aload 0, []), (2184, .iload 5, []), (2186, .iconst 1, []), (2187, .iadd, []), (2188, .iaload, []), (2189, .aload 3, []), (2190, .invokestatic 0, [288, 3]), (2193, .istore 6, []), (2195, .aload 2, []), (2196, .aload 0, []), (2197, .iload 5, []), (2199, .iconst 1, []), (2200, .iadd, []), (2201, .iaload, []), (2202, .invokevirtual 0, [230, 2, 6]), (2205, .istore 7, []), (2207, .aload 2, []), (2208, .invokevirtual 0, [156, 1, 6]), (2211, .iload 6, []), (2213, .if_icmp .eq 0, [100]), (2216, .iconst 0, []), (2217, .ireturn, [2])] := rfl
theorem pg_La_law_100 : zprog 295 100 = [(2218, .iload 6, []), (2220, .ifCond .ne 0, [101]), (2223, .aload 3, []), (2224, .iconst 0, []), (2225, .laload, []), (2226, .iload 7, []), (2228, .i2l, []), (2229, .lcmp, []), (2230, .ifCond .eq 0, [101]), (2233, .iconst 0, []), (2234, .ireturn, [2])] := rfl
theorem pg_La_law_101 : zprog 295 101 = [(2235, .goto 0, [126])] := rfl
theorem pg_La_law_102 : zprog 295 102 = [(2238, .aload 1, []), (2239, .aload 0, []), (2240, .iload 5, []), (2242, .iconst 1, []), (2243, .iadd, []), (2244, .iaload, []), (2245, .aload 0, []), (2246, .iload 5, []), (2248, .iconst 2, []), (2249, .iadd, []), (2250, .iaload, []), (2251, .aload 3, []), (2252, .invokestatic 0, [289, 4]), (2255, .istore 6, []), (2257, .aload 2, []), (2258, .aload 0, []), (2259, .iload 5, []), (2261, .iconst 1, []), (2262, .iadd, []), (2263, .iaload, []), (2264, .aload 0, []), (2265, .iload 5, []), (2267, .iconst 2, []), (2268, .iadd, []), (2269, .iaload, []), (2270, .invokevirtual 0, [234, 3, 6]), (2273, .istore 7, []), (2275, .aload 2, []), (2276, .invokevirtual 0, [156, 1, 6]), (2279, .iload 6, []), (2281, .if_icmp .eq 0, [103]), (2284, .iconst 0, []), (2285, .ireturn, [2])] := rfl
theorem pg_La_law_103 : zprog 295 103 = [(2286, .iload 6, []), (2288, .ifCond .ne 0, [104]), (2291, .aload 3, []), (2292, .iconst 0, []), (2293, .laload, []), (2294, .iload 7, []), (2296, .i2l, []), (2297, .lcmp, []), (2298, .ifCond .eq 0, [104]), (2301, .iconst 0, []), (2302, .ireturn, [2])] := rfl
theorem pg_La_law_104 : zprog 295 104 = [(2303, .goto 0, [126])] := rfl
theorem pg_La_law_105 : zprog 295 105 = [(2306, .aload 1, []), (2307, .aload 0, []), (2308, .iload 5, []), (2310, .iconst 1, []), (2311, .iadd, []), (2312, .iaload, []), (2313, .aload 0, []), (2314, .iload 5, []), (2316, .iconst 2, []), (2317, .iadd, []), (2318, .iaload, []), (2319, .aload 3, []), (2320, .invokestatic 0, [290, 4]), (2323, .istore 6, []), (2325, .aload 2, []), (2326, .aload 0, []), (2327, .iload 5, []), (2329, .iconst 1, []), (2330, .iadd, []), (2331, .iaload, []), (2332, .aload 0, []), (2333, .iload 5, []), (2335, .iconst 2, []), (2336, .iadd, []), (2337, .iaload, []), (2338, .invokevirtual 0, [235, 3, 6]), (2341, .istore 7, []), (2343, .aload 2, []), (2344, .invokevirtual 0, [156, 1, 6]), (2347, .iload 6, []), (2349, .if_icmp .eq 0, [106]), (2352, .iconst 0, []), (2353, .ireturn, [2])] := rfl
theorem pg_La_law_106 : zprog 295 106 = [(2354, .iload 6, []), (2356, .ifCond .ne 0, [107]), (2359, .aload 3, []), (2360, .iconst 0, []), (2361, .laload, []), (2362, .iload 7, []), (2364, .i2l, []), (2365, .lcmp, []), (2366, .ifCond .eq 0, [107]), (2369, .iconst 0, []), (2370, .ireturn, [2])] := rfl
theorem pg_La_law_107 : zprog 295 107 = [(2371, .goto 0, [126])] := rfl
theorem pg_La_law_108 : zprog 295 108 = [(2374, .aload 1, []), (2375, .invokevirtual 0, [103, 1, 5]), (2378, .aload 2, []), (2379, .invokevirtual 0, [237, 1, 6]), (2382, .if_icmp .eq 0, [126]), (2385, .iconst 0, []), (2386, .ireturn, [2])] := rfl
theorem pg_La_law_109 : zprog 295 109 = [(2387, .aload 1, []), (2388, .invokevirtual 0, [104, 1, 5]), (2391, .aload 2, []), (2392, .invokevirtual 0, [238, 1, 6]), (2395, .if_icmp .eq 0, [126]), (2398, .iconst 0, []), (2399, .ireturn, [2])] := rfl
theorem pg_La_law_110 : zprog 295 110 = [(2400, .aload 1, []), (2401, .aload 3, []), (2402, .invokestatic 0, [291, 2]), (2405, .istore 6, []), (2407, .aload 2, []), (2408, .invokevirtual 0, [239, 1, 6]), (2411, .istore 7, []), (2413, .aload 2, []), (2414, .invokevirtual 0, [156, 1, 6]), (2417, .iload 6, []), (2419, .if_icmp .eq 0, [111]), (2422, .iconst 0, []), (2423, .ireturn, [2])] := rfl
theorem pg_La_law_111 : zprog 295 111 = [(2424, .iload 6, []), (2426, .ifCond .ne 0, [112]), (2429, .aload 3, []), (2430, .iconst 0, []), (2431, .laload, []), (2432, .iload 7, []), (2434, .i2l, []), (2435, .lcmp, []), (2436, .ifCond .eq 0, [112]), (2439, .iconst 0, []), (2440, .ireturn, [2])] := rfl
theorem pg_La_law_112 : zprog 295 112 = [(2441, .goto 0, [126])] := rfl
theorem pg_La_law_113 : zprog 295 113 = [(2444, .aload 1, []), (2445, .aload 3, []), (2446, .invokestatic 0, [292, 2]), (2449, .istore 6, []), (2451, .aload 2, []), (2452, .invokevirtual 0, [241, 1, 6]), (2455, .istore 7, []), (2457, .aload 2, []), (2458, .invokevirtual 0, [156, 1, 6]), (2461, .iload 6, []), (2463, .if_icmp .eq 0, [114]), (2466, .iconst 0, []), (2467, .ireturn, [2])] := rfl
theorem pg_La_law_114 : zprog 295 114 = [(2468, .iload 6, []), (2470, .ifCond .ne 0, [115]), (2473, .aload 3, []), (2474, .iconst 0, []), (2475, .laload, []), (2476, .iload 7, []), (2478, .i2l, []), (2479, .lcmp, []), (2480, .ifCond .eq 0, [115]), (2483, .iconst 0, []), (2484, .ireturn, [2])] := rfl
theorem pg_La_law_115 : zprog 295 115 = [(2485, .goto 0, [126])] := rfl
theorem pg_La_law_116 : zprog 295 116 = [(2488, .aload 1, []), (2489, .aload 0, []), (2490, .iload 5, []), (2492, .iconst 1, []), (2493, .iadd, []), (2494, .iaload, []), (2495, .aload 4, []), (2497, .invokestatic 0, [293, 3]), (2500, .istore 6, []), (2502, .aload 2, []), (2503, .aload 0, []), (2504, .iload 5, []), (2506, .iconst 1, []), (2507, .iadd, []), (2508, .iaload, []), (2509, .invokevirtual 0, [242, 2, 6]), (2512, .dstore 7, []), (2514, .aload 2, []), (2515, .invokevirtual 0, [156, 1, 6]), (2518, .iload 6, []), (2520, .if_icmp .eq 0, [117]), (2523, .iconst 0, []), (2524, .ireturn, [2])] := rfl
theorem pg_La_law_117 : zprog 295 117 = [(2525, .iload 6, []), (2527, .ifCond .ne 0, [119]), (2530, .aload 4, []), (2532, .iconst 0, []), (2533, .daload, []), (2534, .dload 7, []), (2536, .dcmp .l, []), (2537, .ifCond .eq 0, [119]), (2540, .aload 4, []), (2542, .iconst 0, []), (2543, .daload, []), (2544, .aload 4, []), (2546, .iconst 0, []), (2547, .daload, []), (2548, .dcmp .l, []), (2549, .ifCond .eq 0, [118]), (2552, .dload 7, []), (2554, .dload 7, []), (2556, .dcmp .l, []), (2557, .ifCond .ne 0, [119]), (2560, .nop, [118])] := rfl
theorem pg_La_law_118 : zprog 295 118 = [(2560, .iconst 0, []), (2561, .ireturn, [2])] := rfl
theorem pg_La_law_119 : zprog 295 119 = [(2562, .goto 0, [126])] := rfl
theorem pg_La_law_120 : zprog 295 120 = [(2565, .aload 1, []), (2566, .aload 4, []), (2568, .invokestatic 0, [294, 2]), (2571, .istore 6, []), (2573, .aload 2, []), (2574, .invokevirtual 0, [243, 1, 6]), (2577, .fstore 7, []), (2579, .aload 2, []), (2580, .invokevirtual 0, [156, 1, 6]), (2583, .iload 6, []), (2585, .if_icmp .eq 0, [121]), (2588, .iconst 0, []), (2589, .ireturn, [2])] := rfl
theorem pg_La_law_121 : zprog 295 121 = [(2590, .iload 6, []), (2592, .ifCond .ne 0, [123]), (2595, .aload 4, []), (2597, .iconst 0, []), (2598, .daload, []), (2599, .fload 7, []), (2601, .f2d, []), (2602, .dcmp .l, []), (2603, .ifCond .eq 0, [123]), (2606, .aload 4, []), (2608, .iconst 0, []), (2609, .daload, []), (2610, .aload 4, []), (2612, .iconst 0, []), (2613, .daload, []), (2614, .dcmp .l, []), (2615, .ifCond .eq 0, [122]), (2618, .fload 7, []), (2620, .fload 7, []), (2622, .fcmp .l, []), (2623, .ifCond .ne 0, [123]), (2626, .nop, [122])] := rfl
theorem pg_La_law_122 : zprog 295 122 = [(2626, .iconst 0, []), (2627, .ireturn, [2])] := rfl
theorem pg_La_law_123 : zprog 295 123 = [(2628, .goto 0, [126])] := rfl
theorem pg_La_law_124 : zprog 295 124 = [(2631, .aload 1, []), (2632, .invokevirtual 0, [109, 1, 5]), (2635, .aload 2, []), (2636, .invokevirtual 0, [244, 1, 6]), (2639, .lcmp, []), (2640, .ifCond .eq 0, [126]), (2643, .iconst 0, []), (2644, .ireturn, [2])] := rfl
theorem pg_La_law_125 : zprog 295 125 = [(2645, .aload 1, []), (2646, .invokevirtual 0, [110, 1, 5]), (2649, .aload 2, []), (2650, .invokevirtual 0, [245, 1, 6]), (2653, .if_icmp .eq 0, [126]), (2656, .iconst 0, []), (2657, .ireturn, [2])] := rfl
theorem pg_La_law_126 : zprog 295 126 = [(2658, .iinc 5 10, []), (2661, .goto 0, [1])] := rfl
theorem pg_La_law_127 : zprog 295 127 = [(2664, .iconst 1, []), (2665, .ireturn, [2])] := rfl
theorem mx_Row_init : zmxl 0 = 2 := rfl
theorem mx_Row_size : zmxl 1 = 1 := rfl
theorem mx_Row_at : zmxl 2 = 2 := rfl
theorem mx_Row_put : zmxl 3 = 3 := rfl
theorem mx_Row_add : zmxl 4 = 2 := rfl
theorem mx_Row_insert : zmxl 5 = 4 := rfl
theorem mx_Row_drop : zmxl 6 = 3 := rfl
theorem mx_Row_empty : zmxl 7 = 1 := rfl
theorem mx_Row_fill : zmxl 8 = 4 := rfl
theorem mx_Row_copyOf : zmxl 9 = 3 := rfl
theorem mx_Row_isLike : zmxl 10 = 3 := rfl
theorem mx_Row_placeOf : zmxl 11 = 3 := rfl
theorem mx_Row_timesOf : zmxl 12 = 4 := rfl
theorem mx_Row_total : zmxl 13 = 3 := rfl
theorem mx_Row_addTo : zmxl 14 = 6 := rfl
theorem mx_Row_sortPlacesOf : zmxl 15 = 4 := rfl
theorem mx_Code_init : zmxl 16 = 3 := rfl
theorem mx_Code_hasTriples : zmxl 17 = 1 := rfl
theorem mx_Code_signsWithWord : zmxl 18 = 1 := rfl
theorem mx_Code_longestLength : zmxl 19 = 3 := rfl
theorem mx_Code_hasWordsFor : zmxl 20 = 3 := rfl
theorem mx_Code_withDigits : zmxl 21 = 7 := rfl
theorem mx_Code_withoutDigits : zmxl 22 = 5 := rfl
theorem mx_Code_layByLengths : zmxl 23 = 5 := rfl
theorem mx_Code_layBySigns : zmxl 24 = 5 := rfl
theorem mx_Code_digit : zmxl 25 = 4 := rfl
theorem mx_Code_share : zmxl 26 = 4 := rfl
theorem mx_Code_signOfRank : zmxl 27 = 6 := rfl
theorem mx_Code_drawnOut : zmxl 28 = 2 := rfl
theorem mx_Code_signBehind : zmxl 29 = 9 := rfl
theorem mx_Code_signBeginning : zmxl 30 = 5 := rfl
theorem mx_Code_someWordBeginsWith : zmxl 31 = 5 := rfl
theorem mx_Code_layWord : zmxl 32 = 4 := rfl
theorem mx_Code_signAhead : zmxl 33 = 6 := rfl
theorem mx_Code_wordsAreApart : zmxl 34 = 3 := rfl
theorem mx_Code_begins : zmxl 35 = 5 := rfl
theorem mx_Forest_init : zmxl 36 = 1 := rfl
theorem mx_Forest_joinLightest : zmxl 37 = 8 := rfl
theorem mx_Forest_plant : zmxl 38 = 3 := rfl
theorem mx_Forest_takeLightest : zmxl 39 = 3 := rfl
theorem mx_Forest_joinInOrder : zmxl 40 = 3 := rfl
theorem mx_Forest_weightInLine : zmxl 41 = 2 := rfl
theorem mx_Forest_firstToJoin : zmxl 42 = 2 := rfl
theorem mx_Forest_joinInLine : zmxl 43 = 5 := rfl
theorem mx_Forest_measure : zmxl 44 = 3 := rfl
theorem mx_Forest_joinedWeight : zmxl 45 = 3 := rfl
theorem mx_Coins_init : zmxl 46 = 1 := rfl
theorem mx_Coins_measure : zmxl 47 = 5 := rfl
theorem mx_Coins_packageWeight : zmxl 48 = 2 := rfl
theorem mx_Coins_layRow : zmxl 49 = 7 := rfl
theorem mx_Coins_countTaken : zmxl 50 = 8 := rfl
theorem mx_Growing_init : zmxl 51 = 1 := rfl
theorem mx_Growing_lay : zmxl 52 = 5 := rfl
theorem mx_Growing_gather : zmxl 53 = 7 := rfl
theorem mx_Growing_start : zmxl 54 = 1 := rfl
theorem mx_Growing_makeCode : zmxl 55 = 1 := rfl
theorem mx_Growing_layNumber : zmxl 56 = 3 := rfl
theorem mx_Growing_grow : zmxl 57 = 3 := rfl
theorem mx_Sh_init : zmxl 58 = 1 := rfl
theorem mx_Sh_type : zmxl 59 = 3 := rfl
theorem mx_Sh_typeMore : zmxl 60 = 11 := rfl
theorem mx_Sh_wipe : zmxl 61 = 2 := rfl
theorem mx_Sh_length : zmxl 62 = 1 := rfl
theorem mx_Sh_typed : zmxl 63 = 2 := rfl
theorem mx_Sh_set : zmxl 64 = 5 := rfl
theorem mx_Sh_count : zmxl 65 = 2 := rfl
theorem mx_Sh_take : zmxl 66 = 1 := rfl
theorem mx_Sh_clear : zmxl 67 = 2 := rfl
theorem mx_Sh_least : zmxl 68 = 1 := rfl
theorem mx_Sh_bounded : zmxl 69 = 2 := rfl
theorem mx_Sh_ordered : zmxl 70 = 2 := rfl
theorem mx_Sh_triple : zmxl 71 = 1 := rfl
theorem mx_Sh_byLengths : zmxl 72 = 2 := rfl
theorem mx_Sh_forget : zmxl 73 = 2 := rfl
theorem mx_Sh_codes : zmxl 74 = 1 := rfl
theorem mx_Sh_kindOf : zmxl 75 = 2 := rfl
theorem mx_Sh_signs : zmxl 76 = 2 := rfl
theorem mx_Sh_signAt : zmxl 77 = 4 := rfl
theorem mx_Sh_wordLength : zmxl 78 = 4 := rfl
theorem mx_Sh_wordBit : zmxl 79 = 6 := rfl
theorem mx_Sh_longest : zmxl 80 = 2 := rfl
theorem mx_Sh_bits : zmxl 81 = 3 := rfl
theorem mx_Sh_sum : zmxl 82 = 2 := rfl
theorem mx_Sh_lookup : zmxl 83 = 6 := rfl
theorem mx_Sh_leastBits : zmxl 84 = 1 := rfl
theorem mx_Sh_boundCost : zmxl 85 = 2 := rfl
theorem mx_Sh_orderCost : zmxl 86 = 1 := rfl
theorem mx_Sh_blockBits : zmxl 87 = 3 := rfl
theorem mx_Sh_fewestFor : zmxl 88 = 4 := rfl
theorem mx_Sh_countFor : zmxl 89 = 3 := rfl
theorem mx_Sh_saved : zmxl 90 = 2 := rfl
theorem mx_Sh_bestCut : zmxl 91 = 5 := rfl
theorem mx_Sh_write : zmxl 92 = 3 := rfl
theorem mx_Sh_read : zmxl 93 = 3 := rfl
theorem mx_Sh_writeGrowing : zmxl 94 = 1 := rfl
theorem mx_Sh_readGrowing : zmxl 95 = 1 := rfl
theorem mx_Sh_streamBits : zmxl 96 = 1 := rfl
theorem mx_Sh_written : zmxl 97 = 1 := rfl
theorem mx_Sh_bitAt : zmxl 98 = 2 := rfl
theorem mx_Sh_turn : zmxl 99 = 2 := rfl
theorem mx_Sh_byteAt : zmxl 100 = 2 := rfl
theorem mx_Sh_inStep : zmxl 101 = 4 := rfl
theorem mx_Sh_lost : zmxl 102 = 7 := rfl
theorem mx_Sh_moves : zmxl 103 = 1 := rfl
theorem mx_Sh_unmoves : zmxl 104 = 3 := rfl
theorem mx_Sh_runs : zmxl 105 = 1 := rfl
theorem mx_Sh_unruns : zmxl 106 = 3 := rfl
theorem mx_Sh_meanLength : zmxl 107 = 4 := rfl
theorem mx_Sh_fullShare : zmxl 108 = 5 := rfl
theorem mx_Sh_checksum : zmxl 109 = 4 := rfl
theorem mx_Sh_isSound : zmxl 110 = 2 := rfl
theorem mx_Sh_numberOf : zmxl 111 = 1 := rfl
theorem mx_Sh_signOf : zmxl 112 = 1 := rfl
theorem mx_Sh_needRoomFor : zmxl 113 = 2 := rfl
theorem mx_Sh_needCounts : zmxl 114 = 1 := rfl
theorem mx_Sh_needRoomForCode : zmxl 115 = 1 := rfl
theorem mx_Sh_needBound : zmxl 116 = 1 := rfl
theorem mx_Sh_needWideBound : zmxl 117 = 2 := rfl
theorem mx_Sh_needWordBits : zmxl 118 = 1 := rfl
theorem mx_Sh_needBit : zmxl 119 = 2 := rfl
theorem mx_Sh_codeAt : zmxl 120 = 2 := rfl
theorem mx_Sh_refuseTriples : zmxl 121 = 1 := rfl
theorem mx_Sh_refuseEmptyWord : zmxl 122 = 1 := rfl
theorem mx_Sh_needWordsForCounts : zmxl 123 = 3 := rfl
theorem mx_Sh_countedSigns : zmxl 124 = 1 := rfl
theorem mx_Sh_countPart : zmxl 125 = 6 := rfl
theorem mx_Sh_leastLengths : zmxl 126 = 2 := rfl
theorem mx_Sh_orderedLengths : zmxl 127 = 2 := rfl
theorem mx_Sh_costOf : zmxl 128 = 4 := rfl
theorem mx_Sh_boundedBits : zmxl 129 = 2 := rfl
theorem mx_Sh_orderedBits : zmxl 130 = 1 := rfl
theorem mx_Sh_partBits : zmxl 131 = 3 := rfl
theorem mx_Sh_cutBits : zmxl 132 = 2 := rfl
theorem mx_Sh_blockFrom : zmxl 133 = 5 := rfl
theorem mx_Sh_countBlock : zmxl 134 = 3 := rfl
theorem mx_Sh_steepCount : zmxl 135 = 5 := rfl
theorem mx_Sh_keepByLengths : zmxl 136 = 3 := rfl
theorem mx_Sh_keep : zmxl 137 = 2 := rfl
theorem mx_Sh_layText : zmxl 138 = 4 := rfl
theorem mx_Sh_gatherText : zmxl 139 = 7 := rfl
theorem mx_Sh_numberFrom : zmxl 140 = 5 := rfl
theorem mx_Sh_nextEnd : zmxl 141 = 5 := rfl
theorem mx_Sh_lastEnd : zmxl 142 = 7 := rfl
theorem mx_Sh_stepBehind : zmxl 143 = 7 := rfl
theorem mx_Sh_layFront : zmxl 144 = 2 := rfl
theorem mx_Sh_bringToFront : zmxl 145 = 3 := rfl
theorem mx_Sh_tellMoves : zmxl 146 = 5 := rfl
theorem mx_Sh_undoMoves : zmxl 147 = 4 := rfl
theorem mx_Sh_tellRuns : zmxl 148 = 5 := rfl
theorem mx_Sh_undoRuns : zmxl 149 = 4 := rfl
theorem mx_Sh_codeIsSound : zmxl 150 = 3 := rfl
theorem mx_Sh_comesBackBy : zmxl 151 = 2 := rfl
theorem mx_Sh_costsAreSound : zmxl 152 = 6 := rfl
theorem mx_Sh_comesBackFromMoves : zmxl 153 = 1 := rfl
theorem mx_Sh_comesBackFromGrowing : zmxl 154 = 1 := rfl
theorem mx_Mo_init : zmxl 155 = 1 := rfl
theorem mx_Mo_thrown : zmxl 156 = 1 := rfl
theorem mx_Mo_no : zmxl 157 = 3 := rfl
theorem mx_Mo_in : zmxl 158 = 3 := rfl
theorem mx_Mo_isSign : zmxl 159 = 1 := rfl
theorem mx_Mo_isCode : zmxl 160 = 2 := rfl
theorem mx_Mo_type : zmxl 161 = 2 := rfl
theorem mx_Mo_typeMore : zmxl 162 = 13 := rfl
theorem mx_Mo_wipe : zmxl 163 = 2 := rfl
theorem mx_Mo_length : zmxl 164 = 1 := rfl
theorem mx_Mo_typed : zmxl 165 = 2 := rfl
theorem mx_Mo_set : zmxl 166 = 4 := rfl
theorem mx_Mo_count : zmxl 167 = 2 := rfl
theorem mx_Mo_above : zmxl 168 = 6 := rfl
theorem mx_Mo_countsOf : zmxl 169 = 4 := rfl
theorem mx_Mo_take : zmxl 170 = 3 := rfl
theorem mx_Mo_clear : zmxl 171 = 3 := rfl
theorem mx_Mo_joined : zmxl 172 = 10 := rfl
theorem mx_Mo_cost : zmxl 173 = 4 := rfl
theorem mx_Mo_packed : zmxl 174 = 13 := rfl
theorem mx_Mo_put : zmxl 175 = 4 := rfl
theorem mx_Mo_inOrder : zmxl 176 = 9 := rfl
theorem mx_Mo_wordsOf : zmxl 177 = 9 := rfl
theorem mx_Mo_wordsInOrder : zmxl 178 = 7 := rfl
theorem mx_Mo_digit : zmxl 179 = 8 := rfl
theorem mx_Mo_comes : zmxl 180 = 3 := rfl
theorem mx_Mo_least : zmxl 181 = 1 := rfl
theorem mx_Mo_isRoom : zmxl 182 = 2 := rfl
theorem mx_Mo_bounded : zmxl 183 = 2 := rfl
theorem mx_Mo_ordered : zmxl 184 = 1 := rfl
theorem mx_Mo_triple : zmxl 185 = 1 := rfl
theorem mx_Mo_sumOf : zmxl 186 = 12 := rfl
theorem mx_Mo_byLengths : zmxl 187 = 4 := rfl
theorem mx_Mo_forget : zmxl 188 = 2 := rfl
theorem mx_Mo_codes : zmxl 189 = 1 := rfl
theorem mx_Mo_kindOf : zmxl 190 = 2 := rfl
theorem mx_Mo_signs : zmxl 191 = 7 := rfl
theorem mx_Mo_baseOf : zmxl 192 = 2 := rfl
theorem mx_Mo_isAhead : zmxl 193 = 7 := rfl
theorem mx_Mo_signAt : zmxl 194 = 7 := rfl
theorem mx_Mo_lacks : zmxl 195 = 3 := rfl
theorem mx_Mo_wordLength : zmxl 196 = 3 := rfl
theorem mx_Mo_wordBit : zmxl 197 = 4 := rfl
theorem mx_Mo_longest : zmxl 198 = 7 := rfl
theorem mx_Mo_hasAll : zmxl 199 = 4 := rfl
theorem mx_Mo_bits : zmxl 200 = 2 := rfl
theorem mx_Mo_sum : zmxl 201 = 2 := rfl
theorem mx_Mo_lookup : zmxl 202 = 9 := rfl
theorem mx_Mo_leastOf : zmxl 203 = 2 := rfl
theorem mx_Mo_leastBits : zmxl 204 = 1 := rfl
theorem mx_Mo_boundCost : zmxl 205 = 2 := rfl
theorem mx_Mo_orderCost : zmxl 206 = 1 := rfl
theorem mx_Mo_areAlike : zmxl 207 = 8 := rfl
theorem mx_Mo_blockBits : zmxl 208 = 5 := rfl
theorem mx_Mo_fibonacci : zmxl 209 = 5 := rfl
theorem mx_Mo_fewestFor : zmxl 210 = 4 := rfl
theorem mx_Mo_countFor : zmxl 211 = 3 := rfl
theorem mx_Mo_savedAt : zmxl 212 = 2 := rfl
theorem mx_Mo_saved : zmxl 213 = 2 := rfl
theorem mx_Mo_bestCut : zmxl 214 = 3 := rfl
theorem mx_Mo_putWord : zmxl 215 = 6 := rfl
theorem mx_Mo_wordAt : zmxl 216 = 8 := rfl
theorem mx_Mo_hasTyped : zmxl 217 = 4 := rfl
theorem mx_Mo_write : zmxl 218 = 3 := rfl
theorem mx_Mo_read : zmxl 219 = 4 := rfl
theorem mx_Mo_grows : zmxl 220 = 7 := rfl
theorem mx_Mo_begins : zmxl 221 = 2 := rfl
theorem mx_Mo_grown : zmxl 222 = 9 := rfl
theorem mx_Mo_ungrown : zmxl 223 = 11 := rfl
theorem mx_Mo_writeGrowing : zmxl 224 = 1 := rfl
theorem mx_Mo_readGrowing : zmxl 225 = 1 := rfl
theorem mx_Mo_streamBits : zmxl 226 = 1 := rfl
theorem mx_Mo_written : zmxl 227 = 1 := rfl
theorem mx_Mo_bitAt : zmxl 228 = 2 := rfl
theorem mx_Mo_turn : zmxl 229 = 2 := rfl
theorem mx_Mo_byteAt : zmxl 230 = 4 := rfl
theorem mx_Mo_ends : zmxl 231 = 5 := rfl
theorem mx_Mo_isSteady : zmxl 232 = 7 := rfl
theorem mx_Mo_stepAt : zmxl 233 = 6 := rfl
theorem mx_Mo_inStep : zmxl 234 = 3 := rfl
theorem mx_Mo_lost : zmxl 235 = 6 := rfl
theorem mx_Mo_goes : zmxl 236 = 8 := rfl
theorem mx_Mo_moves : zmxl 237 = 3 := rfl
theorem mx_Mo_unmoves : zmxl 238 = 3 := rfl
theorem mx_Mo_runs : zmxl 239 = 4 := rfl
theorem mx_Mo_becomes : zmxl 240 = 4 := rfl
theorem mx_Mo_unruns : zmxl 241 = 5 := rfl
theorem mx_Mo_meanLength : zmxl 242 = 7 := rfl
theorem mx_Mo_fullShare : zmxl 243 = 4 := rfl
theorem mx_Mo_checksum : zmxl 244 = 8 := rfl
theorem mx_Mo_isSound : zmxl 245 = 9 := rfl
theorem mx_AL_init : zmxl 246 = 1 := rfl
theorem mx_AL_grow1 : zmxl 247 = 4 := rfl
theorem mx_AL_grow2 : zmxl 248 = 1 := rfl
theorem mx_AL_size : zmxl 249 = 1 := rfl
theorem mx_AL_elementData : zmxl 250 = 2 := rfl
theorem mx_AL_get : zmxl 251 = 2 := rfl
theorem mx_AL_add1 : zmxl 252 = 4 := rfl
theorem mx_AL_add2 : zmxl 253 = 2 := rfl
theorem mx_AL_clear : zmxl 254 = 4 := rfl
theorem mx_ABL_init : zmxl 255 = 1 := rfl
theorem mx_ABC_init : zmxl 256 = 1 := rfl
theorem mx_Ob_checkIndex : zmxl 257 = 2 := rfl
theorem mx_Pre_checkIndex : zmxl 258 = 3 := rfl
theorem mx_AS_newLength : zmxl 259 = 4 := rfl
theorem mx_La_type : zmxl 260 = 4 := rfl
theorem mx_La_typeMore : zmxl 261 = 12 := rfl
theorem mx_La_typed : zmxl 262 = 4 := rfl
theorem mx_La_set : zmxl 263 = 5 := rfl
theorem mx_La_count : zmxl 264 = 4 := rfl
theorem mx_La_least : zmxl 265 = 3 := rfl
theorem mx_La_bounded : zmxl 266 = 4 := rfl
theorem mx_La_ordered : zmxl 267 = 3 := rfl
theorem mx_La_triple : zmxl 268 = 3 := rfl
theorem mx_La_byLengths : zmxl 269 = 3 := rfl
theorem mx_La_kindOf : zmxl 270 = 4 := rfl
theorem mx_La_signs : zmxl 271 = 4 := rfl
theorem mx_La_signAt : zmxl 272 = 5 := rfl
theorem mx_La_wordLength : zmxl 273 = 5 := rfl
theorem mx_La_wordBit : zmxl 274 = 6 := rfl
theorem mx_La_longest : zmxl 275 = 4 := rfl
theorem mx_La_bits : zmxl 276 = 4 := rfl
theorem mx_La_sum : zmxl 277 = 4 := rfl
theorem mx_La_lookup : zmxl 278 = 6 := rfl
theorem mx_La_boundCost : zmxl 279 = 4 := rfl
theorem mx_La_blockBits : zmxl 280 = 4 := rfl
theorem mx_La_fewestFor : zmxl 281 = 4 := rfl
theorem mx_La_countFor : zmxl 282 = 5 := rfl
theorem mx_La_saved : zmxl 283 = 4 := rfl
theorem mx_La_write : zmxl 284 = 4 := rfl
theorem mx_La_read : zmxl 285 = 4 := rfl
theorem mx_La_bitAt : zmxl 286 = 4 := rfl
theorem mx_La_turn : zmxl 287 = 4 := rfl
theorem mx_La_byteAt : zmxl 288 = 4 := rfl
theorem mx_La_inStep : zmxl 289 = 5 := rfl
theorem mx_La_lost : zmxl 290 = 5 := rfl
theorem mx_La_runs : zmxl 291 = 3 := rfl
theorem mx_La_unruns : zmxl 292 = 3 := rfl
theorem mx_La_meanLength : zmxl 293 = 4 := rfl
theorem mx_La_fullShare : zmxl 294 = 3 := rfl
theorem mx_La_law : zmxl 295 = 9 := rfl
theorem fk_0 : zfks 0 = [1, 2, 2] := rfl
theorem fk_1 : zfks 1 = [2, 2, 2, 2] := rfl
theorem fk_2 : zfks 2 = [2, 2, 2, 2, 2, 0, 0] := rfl
theorem fk_3 : zfks 3 = [2, 2, 2] := rfl
theorem fk_4 : zfks 4 = [2, 0] := rfl
theorem fk_5 : zfks 5 = [2, 2, 2, 2, 0, 2, 2, 2, 2, 2, 2, 2, 2, 2, 2, 2, 2] := rfl
theorem fk_6 : zfks 6 = [2, 2, 0, 2, 2, 2, 0, 2, 0, 0, 0, 2, 2, 2, 2, 2, 2, 2, 2, 2, 2, 2, 2] := rfl
theorem fk_7 : zfks 7 = [0, 2, 0] := rfl
