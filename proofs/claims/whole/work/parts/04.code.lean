/-! THE BYTECODE AS TABLES: by program (wip/gen/gen.py) out of the printed names and tables -/
abbrev m_Row_init : Nat := 0
noncomputable def bk_Row_init : List (List AI) := [
  [(0, .aload 0, []), (1, .invokespecial 0, []), (4, .aload 0, []), (5, .iconst 0, []), (6, .iload 1, []), (7, .invokestatic 0, [0]), (10, .newarray .int, [0]), (12, .putfield 0, [4, 0, 2]), (15, .aload 0, []), (16, .iconst 0, []), (17, .putfield 0, [4, 1, 0]), (20, .return_, [])]]
abbrev m_Row_size : Nat := 1
noncomputable def bk_Row_size : List (List AI) := [
  [(0, .aload 0, []), (1, .getfield 0, [4, 1]), (4, .ireturn, [])]]
abbrev m_Row_at : Nat := 2
noncomputable def bk_Row_at : List (List AI) := [
  [(0, .iload 1, []), (1, .ifCond .lt 0, [1]), (4, .iload 1, []), (5, .aload 0, []), (6, .getfield 0, [4, 1]), (9, .if_icmp .ge 0, [1]), (12, .iload 1, []), (13, .aload 0, []), (14, .getfield 0, [4, 0]), (17, .arraylength, []), (18, .if_icmp .ge 0, [1]), (21, .aload 0, []), (22, .getfield 0, [4, 0]), (25, .iload 1, []), (26, .iaload, []), (27, .goto 0, [2])],
  [(30, .iconst 0, []), (31, .nop, [2])],
  [(31, .ireturn, [])]]
abbrev m_Row_put : Nat := 3
noncomputable def bk_Row_put : List (List AI) := [
  [(0, .iload 1, []), (1, .ifCond .lt 0, [1]), (4, .iload 1, []), (5, .aload 0, []), (6, .getfield 0, [4, 1]), (9, .if_icmp .ge 0, [1]), (12, .iload 1, []), (13, .aload 0, []), (14, .getfield 0, [4, 0]), (17, .arraylength, []), (18, .if_icmp .ge 0, [1]), (21, .aload 0, []), (22, .getfield 0, [4, 0]), (25, .iload 1, []), (26, .iload 2, []), (27, .iastore, []), (28, .nop, [1])],
  [(28, .return_, [])]]
abbrev m_Row_add : Nat := 4
noncomputable def bk_Row_add : List (List AI) := [
  [(0, .aload 0, []), (1, .getfield 0, [4, 1]), (4, .ifCond .lt 0, [1]), (7, .aload 0, []), (8, .getfield 0, [4, 1]), (11, .aload 0, []), (12, .getfield 0, [4, 0]), (15, .arraylength, []), (16, .if_icmp .ge 0, [1]), (19, .aload 0, []), (20, .getfield 0, [4, 0]), (23, .aload 0, []), (24, .getfield 0, [4, 1]), (27, .iload 1, []), (28, .iastore, []), (29, .aload 0, []), (30, .dup, []), (31, .getfield 0, [4, 1]), (34, .iconst 1, []), (35, .iadd, []), (36, .putfield 0, [4, 1, 0]), (39, .nop, [1])],
  [(39, .return_, [])]]
abbrev m_Row_insert : Nat := 5
noncomputable def bk_Row_insert : List (List AI) := [
  [(0, .aload 0, []), (1, .iconst 0, []), (2, .invokevirtual 0, [4, 2, 4]), (5, .aload 0, []), (6, .getfield 0, [4, 1]), (9, .iconst 1, []), (10, .isub, []), (11, .istore 3, []), (12, .nop, [1])],
  [(12, .iload 3, []), (13, .iload 1, []), (14, .if_icmp .le 0, [2]), (17, .iload 3, []), (18, .ifCond .le 0, [2]), (21, .aload 0, []), (22, .iload 3, []), (23, .aload 0, []), (24, .iload 3, []), (25, .iconst 1, []), (26, .isub, []), (27, .invokevirtual 0, [2, 2, 4]), (30, .invokevirtual 0, [3, 3, 4]), (33, .iinc 3 (-1), []), (36, .goto 0, [1])],
  [(39, .aload 0, []), (40, .iload 1, []), (41, .iload 2, []), (42, .invokevirtual 0, [3, 3, 4]), (45, .return_, [])]]
abbrev m_Row_drop : Nat := 6
noncomputable def bk_Row_drop : List (List AI) := [
  [(0, .iload 1, []), (1, .ifCond .lt 0, [3]), (4, .iload 1, []), (5, .aload 0, []), (6, .getfield 0, [4, 1]), (9, .if_icmp .ge 0, [3]), (12, .iload 1, []), (13, .istore 2, []), (14, .nop, [1])],
  [(14, .iload 2, []), (15, .aload 0, []), (16, .getfield 0, [4, 1]), (19, .iconst 1, []), (20, .isub, []), (21, .if_icmp .ge 0, [2]), (24, .aload 0, []), (25, .iload 2, []), (26, .aload 0, []), (27, .iload 2, []), (28, .iconst 1, []), (29, .iadd, []), (30, .invokevirtual 0, [2, 2, 4]), (33, .invokevirtual 0, [3, 3, 4]), (36, .iinc 2 1, []), (39, .goto 0, [1])],
  [(42, .aload 0, []), (43, .dup, []), (44, .getfield 0, [4, 1]), (47, .iconst 1, []), (48, .isub, []), (49, .putfield 0, [4, 1, 0]), (52, .nop, [3])],
  [(52, .return_, [])]]
abbrev m_Row_empty : Nat := 7
noncomputable def bk_Row_empty : List (List AI) := [
  [(0, .aload 0, []), (1, .iconst 0, []), (2, .putfield 0, [4, 1, 0]), (5, .return_, [])]]
abbrev m_Row_fill : Nat := 8
noncomputable def bk_Row_fill : List (List AI) := [
  [(0, .aload 0, []), (1, .iconst 0, []), (2, .iload 1, []), (3, .aload 0, []), (4, .getfield 0, [4, 0]), (7, .arraylength, []), (8, .invokestatic 0, [1]), (11, .invokestatic 0, [0]), (14, .putfield 0, [4, 1, 0]), (17, .iconst 0, []), (18, .istore 3, []), (19, .nop, [1])],
  [(19, .iload 3, []), (20, .aload 0, []), (21, .getfield 0, [4, 1]), (24, .if_icmp .ge 0, [2]), (27, .aload 0, []), (28, .iload 3, []), (29, .iload 2, []), (30, .invokevirtual 0, [3, 3, 4]), (33, .iinc 3 1, []), (36, .goto 0, [1])],
  [(39, .return_, [])]]
abbrev m_Row_copyOf : Nat := 9
noncomputable def bk_Row_copyOf : List (List AI) := [
  [(0, .aload 0, []), (1, .invokevirtual 0, [7, 1, 4]), (4, .iconst 0, []), (5, .istore 2, []), (6, .nop, [1])],
  [(6, .iload 2, []), (7, .aload 1, []), (8, .invokevirtual 0, [1, 1, 4]), (11, .if_icmp .ge 0, [2]), (14, .aload 0, []), (15, .aload 1, []), (16, .iload 2, []), (17, .invokevirtual 0, [2, 2, 4]), (20, .invokevirtual 0, [4, 2, 4]), (23, .iinc 2 1, []), (26, .goto 0, [1])],
  [(29, .return_, [])]]
abbrev m_Row_isLike : Nat := 10
noncomputable def bk_Row_isLike : List (List AI) := [
  [(0, .aload 0, []), (1, .getfield 0, [4, 1]), (4, .aload 1, []), (5, .invokevirtual 0, [1, 1, 4]), (8, .if_icmp .eq 0, [1]), (11, .iconst 0, []), (12, .ireturn, [2])],
  [(13, .iconst 0, []), (14, .istore 2, []), (15, .nop, [2])],
  [(15, .iload 2, []), (16, .aload 0, []), (17, .getfield 0, [4, 1]), (20, .if_icmp .ge 0, [4]), (23, .aload 0, []), (24, .iload 2, []), (25, .invokevirtual 0, [2, 2, 4]), (28, .aload 1, []), (29, .iload 2, []), (30, .invokevirtual 0, [2, 2, 4]), (33, .if_icmp .eq 0, [3]), (36, .iconst 0, []), (37, .ireturn, [2])],
  [(38, .iinc 2 1, []), (41, .goto 0, [2])],
  [(44, .iconst 1, []), (45, .ireturn, [2])]]
abbrev m_Row_placeOf : Nat := 11
noncomputable def bk_Row_placeOf : List (List AI) := [
  [(0, .iconst 0, []), (1, .istore 2, []), (2, .nop, [1])],
  [(2, .iload 2, []), (3, .aload 0, []), (4, .getfield 0, [4, 1]), (7, .if_icmp .ge 0, [3]), (10, .aload 0, []), (11, .iload 2, []), (12, .invokevirtual 0, [2, 2, 4]), (15, .iload 1, []), (16, .if_icmp .ne 0, [2]), (19, .iload 2, []), (20, .ireturn, [])],
  [(21, .iinc 2 1, []), (24, .goto 0, [1])],
  [(27, .iconst (-1), []), (28, .ireturn, [])]]
abbrev m_Row_timesOf : Nat := 12
noncomputable def bk_Row_timesOf : List (List AI) := [
  [(0, .iconst 0, []), (1, .istore 2, []), (2, .iconst 0, []), (3, .istore 3, []), (4, .nop, [1])],
  [(4, .iload 3, []), (5, .aload 0, []), (6, .getfield 0, [4, 1]), (9, .if_icmp .ge 0, [4]), (12, .iload 2, []), (13, .aload 0, []), (14, .iload 3, []), (15, .invokevirtual 0, [2, 2, 4]), (18, .iload 1, []), (19, .if_icmp .ne 0, [2]), (22, .iconst 1, []), (23, .goto 0, [3])],
  [(26, .iconst 0, []), (27, .nop, [3])],
  [(27, .iadd, []), (28, .istore 2, []), (29, .iinc 3 1, []), (32, .goto 0, [1])],
  [(35, .iload 2, []), (36, .ireturn, [])]]
abbrev m_Row_total : Nat := 13
noncomputable def bk_Row_total : List (List AI) := [
  [(0, .iconst 0, []), (1, .istore 1, []), (2, .iconst 0, []), (3, .istore 2, []), (4, .nop, [1])],
  [(4, .iload 2, []), (5, .aload 0, []), (6, .getfield 0, [4, 1]), (9, .if_icmp .ge 0, [2]), (12, .iload 1, []), (13, .aload 0, []), (14, .iload 2, []), (15, .invokevirtual 0, [2, 2, 4]), (18, .iadd, []), (19, .istore 1, []), (20, .iinc 2 1, []), (23, .goto 0, [1])],
  [(26, .iload 1, []), (27, .ireturn, [])]]
abbrev m_Row_addTo : Nat := 14
noncomputable def bk_Row_addTo : List (List AI) := [
  [(0, .lload 1, []), (1, .lstore 3, []), (2, .iconst 0, []), (3, .istore 5, []), (5, .nop, [1])],
  [(5, .iload 5, []), (7, .aload 0, []), (8, .getfield 0, [4, 1]), (11, .if_icmp .ge 0, [2]), (14, .ldc2_w 0, [31, 0]), (17, .lload 3, []), (18, .lmul, []), (19, .aload 0, []), (20, .iload 5, []), (22, .invokevirtual 0, [2, 2, 4]), (25, .i2l, []), (26, .ladd, []), (27, .lstore 3, []), (28, .iinc 5 1, []), (31, .goto 0, [1])],
  [(34, .lload 3, []), (35, .lreturn, [])]]
abbrev m_Row_sortPlacesOf : Nat := 15
noncomputable def bk_Row_sortPlacesOf : List (List AI) := [
  [(0, .aload 0, []), (1, .invokevirtual 0, [7, 1, 4]), (4, .iconst 0, []), (5, .istore 2, []), (6, .nop, [1])],
  [(6, .iload 2, []), (7, .aload 1, []), (8, .invokevirtual 0, [1, 1, 4]), (11, .if_icmp .ge 0, [5]), (14, .aload 1, []), (15, .iload 2, []), (16, .invokevirtual 0, [2, 2, 4]), (19, .ifCond .le 0, [4]), (22, .aload 0, []), (23, .iload 2, []), (24, .invokevirtual 0, [4, 2, 4]), (27, .aload 0, []), (28, .getfield 0, [4, 1]), (31, .iconst 1, []), (32, .isub, []), (33, .istore 3, []), (34, .nop, [2])],
  [(34, .iload 3, []), (35, .ifCond .le 0, [3]), (38, .aload 1, []), (39, .aload 0, []), (40, .iload 3, []), (41, .iconst 1, []), (42, .isub, []), (43, .invokevirtual 0, [2, 2, 4]), (46, .invokevirtual 0, [2, 2, 4]), (49, .aload 1, []), (50, .iload 2, []), (51, .invokevirtual 0, [2, 2, 4]), (54, .if_icmp .le 0, [3]), (57, .aload 0, []), (58, .iload 3, []), (59, .aload 0, []), (60, .iload 3, []), (61, .iconst 1, []), (62, .isub, []), (63, .invokevirtual 0, [2, 2, 4]), (66, .invokevirtual 0, [3, 3, 4]), (69, .iinc 3 (-1), []), (72, .goto 0, [2])],
  [(75, .aload 0, []), (76, .iload 3, []), (77, .iload 2, []), (78, .invokevirtual 0, [3, 3, 4]), (81, .nop, [4])],
  [(81, .iinc 2 1, []), (84, .goto 0, [1])],
  [(87, .return_, [])]]
abbrev m_Code_init : Nat := 16
noncomputable def bk_Code_init : List (List AI) := [
  [(0, .aload 0, []), (1, .invokespecial 0, []), (4, .aload 0, []), (5, .iload 1, []), (6, .putfield 0, [0, 0, 1]), (9, .aload 0, []), (10, .new 0, [4, 0]), (13, .dup, []), (14, .iload 2, []), (15, .invokespecial 0, [0, 2]), (18, .putfield 0, [0, 1, 2]), (21, .aload 0, []), (22, .new 0, [4, 0]), (25, .dup, []), (26, .iload 2, []), (27, .invokespecial 0, [0, 2]), (30, .putfield 0, [0, 2, 2]), (33, .aload 0, []), (34, .getfield 0, [0, 1]), (37, .iload 2, []), (38, .iconst (-1), []), (39, .invokevirtual 0, [8, 3, 4]), (42, .aload 0, []), (43, .getfield 0, [0, 2]), (46, .iload 2, []), (47, .iconst 0, []), (48, .invokevirtual 0, [8, 3, 4]), (51, .return_, [])]]
abbrev m_Code_hasTriples : Nat := 17
noncomputable def bk_Code_hasTriples : List (List AI) := [
  [(0, .aload 0, []), (1, .getfield 0, [0, 0]), (4, .iconst 116, []), (6, .if_icmp .ne 0, [1]), (9, .iconst 1, []), (10, .goto 0, [2])],
  [(13, .iconst 0, []), (14, .nop, [2])],
  [(14, .ireturn, [2])]]
abbrev m_Code_signsWithWord : Nat := 18
noncomputable def bk_Code_signsWithWord : List (List AI) := [
  [(0, .aload 0, []), (1, .getfield 0, [0, 1]), (4, .invokevirtual 0, [1, 1, 4]), (7, .aload 0, []), (8, .getfield 0, [0, 1]), (11, .iconst (-1), []), (12, .invokevirtual 0, [12, 2, 4]), (15, .isub, []), (16, .ireturn, [])]]
abbrev m_Code_longestLength : Nat := 19
noncomputable def bk_Code_longestLength : List (List AI) := [
  [(0, .iconst 0, []), (1, .istore 1, []), (2, .iconst 0, []), (3, .istore 2, []), (4, .nop, [1])],
  [(4, .iload 2, []), (5, .aload 0, []), (6, .getfield 0, [0, 1]), (9, .invokevirtual 0, [1, 1, 4]), (12, .if_icmp .ge 0, [2]), (15, .iload 1, []), (16, .aload 0, []), (17, .getfield 0, [0, 1]), (20, .iload 2, []), (21, .invokevirtual 0, [2, 2, 4]), (24, .invokestatic 0, [0]), (27, .istore 1, []), (28, .iinc 2 1, []), (31, .goto 0, [1])],
  [(34, .iload 1, []), (35, .ireturn, [])]]
abbrev m_Code_hasWordsFor : Nat := 20
noncomputable def bk_Code_hasWordsFor : List (List AI) := [
  [(0, .iconst 0, []), (1, .istore 2, []), (2, .nop, [1])],
  [(2, .iload 2, []), (3, .aload 1, []), (4, .invokevirtual 0, [1, 1, 4]), (7, .if_icmp .ge 0, [3]), (10, .aload 0, []), (11, .getfield 0, [0, 1]), (14, .aload 1, []), (15, .iload 2, []), (16, .invokevirtual 0, [2, 2, 4]), (19, .invokevirtual 0, [2, 2, 4]), (22, .ifCond .ge 0, [2]), (25, .iconst 0, []), (26, .ireturn, [2])],
  [(27, .iinc 2 1, []), (30, .goto 0, [1])],
  [(33, .iconst 1, []), (34, .ireturn, [2])]]
abbrev m_Code_withDigits : Nat := 21
noncomputable def bk_Code_withDigits : List (List AI) := [
  [(0, .lload 1, []), (1, .lstore 4, []), (3, .iconst 0, []), (4, .istore 6, []), (6, .nop, [1])],
  [(6, .iload 6, []), (8, .iload 3, []), (9, .if_icmp .ge 0, [4]), (12, .lload 4, []), (14, .aload 0, []), (15, .invokevirtual 0, [17, 1, 0]), (18, .ifCond .eq 0, [2]), (21, .ldc2_w 0, [3, 0]), (24, .goto 0, [3])],
  [(27, .ldc2_w 0, [2, 0]), (30, .nop, [3])],
  [(30, .lmul, []), (31, .lstore 4, []), (33, .iinc 6 1, []), (36, .goto 0, [1])],
  [(39, .lload 4, []), (41, .lreturn, [])]]
abbrev m_Code_withoutDigits : Nat := 22
noncomputable def bk_Code_withoutDigits : List (List AI) := [
  [(0, .iload 1, []), (1, .istore 3, []), (2, .iconst 0, []), (3, .istore 4, []), (5, .nop, [1])],
  [(5, .iload 4, []), (7, .iload 2, []), (8, .if_icmp .ge 0, [4]), (11, .aload 0, []), (12, .invokevirtual 0, [17, 1, 0]), (15, .ifCond .eq 0, [2]), (18, .iload 3, []), (19, .iconst 3, []), (20, .idiv, []), (21, .goto 0, [3])],
  [(24, .iload 3, []), (25, .iconst 2, []), (26, .idiv, []), (27, .nop, [3])],
  [(27, .istore 3, []), (28, .iinc 4 1, []), (31, .goto 0, [1])],
  [(34, .iload 3, []), (35, .ireturn, [])]]
abbrev m_Code_layByLengths : Nat := 23
noncomputable def bk_Code_layByLengths : List (List AI) := [
  [(0, .aload 0, []), (1, .invokevirtual 0, [19, 1, 0]), (4, .istore 1, []), (5, .iconst 0, []), (6, .istore 2, []), (7, .iconst 0, []), (8, .istore 3, []), (9, .nop, [1])],
  [(9, .iload 3, []), (10, .iload 1, []), (11, .if_icmp .gt 0, [7]), (14, .iconst 0, []), (15, .istore 4, []), (17, .nop, [2])],
  [(17, .iload 4, []), (19, .aload 0, []), (20, .getfield 0, [0, 1]), (23, .invokevirtual 0, [1, 1, 4]), (26, .if_icmp .ge 0, [4]), (29, .aload 0, []), (30, .getfield 0, [0, 1]), (33, .iload 4, []), (35, .invokevirtual 0, [2, 2, 4]), (38, .iload 3, []), (39, .if_icmp .ne 0, [3]), (42, .aload 0, []), (43, .getfield 0, [0, 2]), (46, .iload 4, []), (48, .iload 2, []), (49, .invokevirtual 0, [3, 3, 4]), (52, .iinc 2 1, []), (55, .nop, [3])],
  [(55, .iinc 4 1, []), (58, .goto 0, [2])],
  [(61, .iload 2, []), (62, .aload 0, []), (63, .invokevirtual 0, [17, 1, 0]), (66, .ifCond .eq 0, [5]), (69, .iconst 3, []), (70, .goto 0, [6])],
  [(73, .iconst 2, []), (74, .nop, [6])],
  [(74, .imul, []), (75, .istore 2, []), (76, .iinc 3 1, []), (79, .goto 0, [1])],
  [(82, .return_, [])]]
abbrev m_Code_layBySigns : Nat := 24
noncomputable def bk_Code_layBySigns : List (List AI) := [
  [(0, .iconst 0, []), (1, .istore 1, []), (2, .iconst (-1), []), (3, .istore 2, []), (4, .iconst 0, []), (5, .istore 3, []), (6, .nop, [1])],
  [(6, .iload 3, []), (7, .aload 0, []), (8, .getfield 0, [0, 1]), (11, .invokevirtual 0, [1, 1, 4]), (14, .if_icmp .ge 0, [6]), (17, .aload 0, []), (18, .getfield 0, [0, 1]), (21, .iload 3, []), (22, .invokevirtual 0, [2, 2, 4]), (25, .istore 4, []), (27, .iload 4, []), (29, .ifCond .lt 0, [5]), (32, .iload 2, []), (33, .ifCond .lt 0, [4]), (36, .iload 4, []), (38, .iload 2, []), (39, .if_icmp .lt 0, [2]), (42, .iload 1, []), (43, .iconst 1, []), (44, .iadd, []), (45, .iload 4, []), (47, .iload 2, []), (48, .isub, []), (49, .ishl, []), (50, .goto 0, [3])],
  [(53, .iload 1, []), (54, .iconst 1, []), (55, .iadd, []), (56, .iload 2, []), (57, .iload 4, []), (59, .isub, []), (60, .ishr, []), (61, .nop, [3])],
  [(61, .istore 1, []), (62, .nop, [4])],
  [(62, .aload 0, []), (63, .getfield 0, [0, 2]), (66, .iload 3, []), (67, .iload 1, []), (68, .invokevirtual 0, [3, 3, 4]), (71, .iload 4, []), (73, .istore 2, []), (74, .nop, [5])],
  [(74, .iinc 3 1, []), (77, .goto 0, [1])],
  [(80, .return_, [])]]
abbrev m_Code_digit : Nat := 25
noncomputable def bk_Code_digit : List (List AI) := [
  [(0, .aload 0, []), (1, .aload 0, []), (2, .getfield 0, [0, 2]), (5, .iload 1, []), (6, .invokevirtual 0, [2, 2, 4]), (9, .aload 0, []), (10, .getfield 0, [0, 1]), (13, .iload 1, []), (14, .invokevirtual 0, [2, 2, 4]), (17, .iconst 1, []), (18, .isub, []), (19, .iload 2, []), (20, .isub, []), (21, .invokevirtual 0, [22, 3, 0]), (24, .istore 3, []), (25, .aload 0, []), (26, .invokevirtual 0, [17, 1, 0]), (29, .ifCond .eq 0, [1]), (32, .iload 3, []), (33, .iconst 3, []), (34, .irem, []), (35, .goto 0, [2])],
  [(38, .iload 3, []), (39, .iconst 2, []), (40, .irem, []), (41, .nop, [2])],
  [(41, .ireturn, [])]]
abbrev m_Code_share : Nat := 26
noncomputable def bk_Code_share : List (List AI) := [
  [(0, .ldc2_w 0, [0, 0]), (1, .lstore 1, []), (2, .iconst 0, []), (3, .istore 3, []), (4, .nop, [1])],
  [(4, .iload 3, []), (5, .aload 0, []), (6, .getfield 0, [0, 1]), (9, .invokevirtual 0, [1, 1, 4]), (12, .if_icmp .ge 0, [3]), (15, .aload 0, []), (16, .getfield 0, [0, 1]), (19, .iload 3, []), (20, .invokevirtual 0, [2, 2, 4]), (23, .ifCond .lt 0, [2]), (26, .lload 1, []), (27, .aload 0, []), (28, .ldc2_w 0, [1, 0]), (29, .iconst 25, []), (31, .aload 0, []), (32, .getfield 0, [0, 1]), (35, .iload 3, []), (36, .invokevirtual 0, [2, 2, 4]), (39, .isub, []), (40, .invokevirtual 0, [21, 3, 0]), (43, .ladd, []), (44, .lstore 1, []), (45, .nop, [2])],
  [(45, .iinc 3 1, []), (48, .goto 0, [1])],
  [(51, .lload 1, []), (52, .lreturn, [])]]
abbrev m_Code_signOfRank : Nat := 27
noncomputable def bk_Code_signOfRank : List (List AI) := [
  [(0, .ldc2_w 0, [1, 1]), (3, .lstore 2, []), (4, .iconst (-1), []), (5, .istore 4, []), (7, .iconst 0, []), (8, .istore 5, []), (10, .nop, [1])],
  [(10, .iload 5, []), (12, .iload 1, []), (13, .if_icmp .gt 0, [3]), (16, .aload 0, []), (17, .lload 2, []), (18, .invokevirtual 0, [29, 2, 0]), (21, .istore 4, []), (23, .iload 4, []), (25, .ifCond .ge 0, [2]), (28, .iconst (-1), []), (29, .ireturn, [])],
  [(30, .aload 0, []), (31, .iload 4, []), (33, .invokevirtual 0, [28, 2, 0]), (36, .lstore 2, []), (37, .iinc 5 1, []), (40, .goto 0, [1])],
  [(43, .iload 4, []), (45, .ireturn, [])]]
abbrev m_Code_drawnOut : Nat := 28
noncomputable def bk_Code_drawnOut : List (List AI) := [
  [(0, .aload 0, []), (1, .aload 0, []), (2, .getfield 0, [0, 2]), (5, .iload 1, []), (6, .invokevirtual 0, [2, 2, 4]), (9, .i2l, []), (10, .iconst 25, []), (12, .aload 0, []), (13, .getfield 0, [0, 1]), (16, .iload 1, []), (17, .invokevirtual 0, [2, 2, 4]), (20, .isub, []), (21, .invokevirtual 0, [21, 3, 0]), (24, .lreturn, [])]]
abbrev m_Code_signBehind : Nat := 29
noncomputable def bk_Code_signBehind : List (List AI) := [
  [(0, .iconst (-1), []), (1, .istore 3, []), (2, .ldc2_w 0, [0, 0]), (3, .lstore 4, []), (5, .iconst 0, []), (6, .istore 6, []), (8, .nop, [1])],
  [(8, .iload 6, []), (10, .aload 0, []), (11, .getfield 0, [0, 1]), (14, .invokevirtual 0, [1, 1, 4]), (17, .if_icmp .ge 0, [4]), (20, .aload 0, []), (21, .getfield 0, [0, 1]), (24, .iload 6, []), (26, .invokevirtual 0, [2, 2, 4]), (29, .ifCond .lt 0, [3]), (32, .aload 0, []), (33, .iload 6, []), (35, .invokevirtual 0, [28, 2, 0]), (38, .lstore 7, []), (40, .lload 7, []), (42, .lload 1, []), (43, .lcmp, []), (44, .ifCond .le 0, [3]), (47, .iload 3, []), (48, .ifCond .lt 0, [2]), (51, .lload 7, []), (53, .lload 4, []), (55, .lcmp, []), (56, .ifCond .ge 0, [3]), (59, .nop, [2])],
  [(59, .iload 6, []), (61, .istore 3, []), (62, .lload 7, []), (64, .lstore 4, []), (66, .nop, [3])],
  [(66, .iinc 6 1, []), (69, .goto 0, [1])],
  [(72, .iload 3, []), (73, .ireturn, [])]]
abbrev m_Code_signBeginning : Nat := 30
noncomputable def bk_Code_signBeginning : List (List AI) := [
  [(0, .iconst 0, []), (1, .istore 3, []), (2, .nop, [1])],
  [(2, .iload 3, []), (3, .aload 0, []), (4, .getfield 0, [0, 1]), (7, .invokevirtual 0, [1, 1, 4]), (10, .if_icmp .ge 0, [3]), (13, .aload 0, []), (14, .getfield 0, [0, 1]), (17, .iload 3, []), (18, .invokevirtual 0, [2, 2, 4]), (21, .istore 4, []), (23, .iload 4, []), (25, .ifCond .lt 0, [2]), (28, .iload 4, []), (30, .iload 2, []), (31, .if_icmp .gt 0, [2]), (34, .iload 1, []), (35, .iload 2, []), (36, .iload 4, []), (38, .isub, []), (39, .ishr, []), (40, .aload 0, []), (41, .getfield 0, [0, 2]), (44, .iload 3, []), (45, .invokevirtual 0, [2, 2, 4]), (48, .if_icmp .ne 0, [2]), (51, .iload 3, []), (52, .ireturn, [])],
  [(53, .iinc 3 1, []), (56, .goto 0, [1])],
  [(59, .iconst (-1), []), (60, .ireturn, [])]]
abbrev m_Code_someWordBeginsWith : Nat := 31
noncomputable def bk_Code_someWordBeginsWith : List (List AI) := [
  [(0, .iconst 0, []), (1, .istore 3, []), (2, .nop, [1])],
  [(2, .iload 3, []), (3, .aload 0, []), (4, .getfield 0, [0, 1]), (7, .invokevirtual 0, [1, 1, 4]), (10, .if_icmp .ge 0, [3]), (13, .aload 0, []), (14, .getfield 0, [0, 1]), (17, .iload 3, []), (18, .invokevirtual 0, [2, 2, 4]), (21, .istore 4, []), (23, .iload 4, []), (25, .iload 2, []), (26, .if_icmp .lt 0, [2]), (29, .aload 0, []), (30, .getfield 0, [0, 2]), (33, .iload 3, []), (34, .invokevirtual 0, [2, 2, 4]), (37, .iload 4, []), (39, .iload 2, []), (40, .isub, []), (41, .ishr, []), (42, .iload 1, []), (43, .if_icmp .ne 0, [2]), (46, .iconst 1, []), (47, .ireturn, [2])],
  [(48, .iinc 3 1, []), (51, .goto 0, [1])],
  [(54, .iconst 0, []), (55, .ireturn, [2])]]
abbrev m_Code_layWord : Nat := 32
noncomputable def bk_Code_layWord : List (List AI) := [
  [(0, .aload 0, []), (1, .getfield 0, [0, 1]), (4, .iload 1, []), (5, .invokevirtual 0, [2, 2, 4]), (8, .iconst 1, []), (9, .isub, []), (10, .istore 3, []), (11, .nop, [1])],
  [(11, .iload 3, []), (12, .ifCond .lt 0, [2]), (15, .aload 2, []), (16, .aload 0, []), (17, .getfield 0, [0, 2]), (20, .iload 1, []), (21, .invokevirtual 0, [2, 2, 4]), (24, .iload 3, []), (25, .ishr, []), (26, .iconst 1, []), (27, .iand, []), (28, .invokevirtual 0, [4, 2, 4]), (31, .iinc 3 (-1), []), (34, .goto 0, [1])],
  [(37, .return_, [])]]
abbrev m_Code_signAhead : Nat := 33
noncomputable def bk_Code_signAhead : List (List AI) := [
  [(0, .iconst 25, []), (2, .aload 1, []), (3, .invokevirtual 0, [1, 1, 4]), (6, .iload 2, []), (7, .isub, []), (8, .invokestatic 0, [1]), (11, .istore 4, []), (13, .aload 1, []), (14, .iload 2, []), (15, .iload 4, []), (17, .invokestatic 0, [140, 3]), (20, .istore 5, []), (22, .iload 3, []), (23, .iload 2, []), (24, .if_icmp .lt 0, [1]), (27, .iload 3, []), (28, .iload 2, []), (29, .iload 4, []), (31, .iadd, []), (32, .if_icmp .ge 0, [1]), (35, .iload 5, []), (37, .iconst 1, []), (38, .iload 2, []), (39, .iload 4, []), (41, .iadd, []), (42, .iconst 1, []), (43, .isub, []), (44, .iload 3, []), (45, .isub, []), (46, .ishl, []), (47, .ixor, []), (48, .istore 5, []), (50, .nop, [1])],
  [(50, .aload 0, []), (51, .iload 5, []), (53, .iload 4, []), (55, .invokevirtual 0, [30, 3, 0]), (58, .ireturn, [])]]
abbrev m_Code_wordsAreApart : Nat := 34
noncomputable def bk_Code_wordsAreApart : List (List AI) := [
  [(0, .iconst 0, []), (1, .istore 1, []), (2, .nop, [1])],
  [(2, .iload 1, []), (3, .aload 0, []), (4, .getfield 0, [0, 1]), (7, .invokevirtual 0, [1, 1, 4]), (10, .if_icmp .ge 0, [5]), (13, .iconst 0, []), (14, .istore 2, []), (15, .nop, [2])],
  [(15, .iload 2, []), (16, .aload 0, []), (17, .getfield 0, [0, 1]), (20, .invokevirtual 0, [1, 1, 4]), (23, .if_icmp .ge 0, [4]), (26, .iload 1, []), (27, .iload 2, []), (28, .if_icmp .eq 0, [3]), (31, .aload 0, []), (32, .iload 1, []), (33, .iload 2, []), (34, .invokevirtual 0, [35, 3, 0]), (37, .ifCond .eq 0, [3]), (40, .iconst 0, []), (41, .ireturn, [2])],
  [(42, .iinc 2 1, []), (45, .goto 0, [2])],
  [(48, .iinc 1 1, []), (51, .goto 0, [1])],
  [(54, .iconst 1, []), (55, .ireturn, [2])]]
abbrev m_Code_begins : Nat := 35
noncomputable def bk_Code_begins : List (List AI) := [
  [(0, .aload 0, []), (1, .getfield 0, [0, 1]), (4, .iload 1, []), (5, .invokevirtual 0, [2, 2, 4]), (8, .istore 3, []), (9, .aload 0, []), (10, .getfield 0, [0, 1]), (13, .iload 2, []), (14, .invokevirtual 0, [2, 2, 4]), (17, .iload 3, []), (18, .isub, []), (19, .istore 4, []), (21, .iload 3, []), (22, .ifCond .lt 0, [1]), (25, .iload 4, []), (27, .ifCond .lt 0, [1]), (30, .aload 0, []), (31, .aload 0, []), (32, .getfield 0, [0, 2]), (35, .iload 2, []), (36, .invokevirtual 0, [2, 2, 4]), (39, .iload 4, []), (41, .invokevirtual 0, [22, 3, 0]), (44, .aload 0, []), (45, .getfield 0, [0, 2]), (48, .iload 1, []), (49, .invokevirtual 0, [2, 2, 4]), (52, .if_icmp .ne 0, [1]), (55, .iconst 1, []), (56, .goto 0, [2])],
  [(59, .iconst 0, []), (60, .nop, [2])],
  [(60, .ireturn, [2])]]
abbrev m_Forest_init : Nat := 36
noncomputable def bk_Forest_init : List (List AI) := [
  [(0, .aload 0, []), (1, .invokespecial 0, []), (4, .aload 0, []), (5, .new 0, [4, 0]), (8, .dup, []), (9, .iconst 120, []), (11, .invokespecial 0, [0, 2]), (14, .putfield 0, [2, 0, 2]), (17, .aload 0, []), (18, .new 0, [4, 0]), (21, .dup, []), (22, .iconst 240, []), (25, .invokespecial 0, [0, 2]), (28, .putfield 0, [2, 1, 2]), (31, .aload 0, []), (32, .new 0, [4, 0]), (35, .dup, []), (36, .iconst 240, []), (39, .invokespecial 0, [0, 2]), (42, .putfield 0, [2, 2, 2]), (45, .aload 0, []), (46, .new 0, [4, 0]), (49, .dup, []), (50, .iconst 240, []), (53, .invokespecial 0, [0, 2]), (56, .putfield 0, [2, 3, 2]), (59, .aload 0, []), (60, .new 0, [4, 0]), (63, .dup, []), (64, .iconst 120, []), (66, .invokespecial 0, [0, 2]), (69, .putfield 0, [2, 4, 2]), (72, .aload 0, []), (73, .iconst 0, []), (74, .putfield 0, [2, 5, 0]), (77, .aload 0, []), (78, .iconst 0, []), (79, .putfield 0, [2, 6, 0]), (82, .return_, [])]]
abbrev m_Forest_joinLightest : Nat := 37
noncomputable def bk_Forest_joinLightest : List (List AI) := [
  [(0, .aload 0, []), (1, .getfield 0, [2, 0]), (4, .aload 1, []), (5, .invokevirtual 0, [15, 2, 4]), (8, .iload 2, []), (9, .ifCond .eq 0, [1]), (12, .aload 0, []), (13, .getfield 0, [2, 0]), (16, .invokevirtual 0, [1, 1, 4]), (19, .iconst 2, []), (20, .irem, []), (21, .ifCond .ne 0, [1]), (24, .aload 0, []), (25, .getfield 0, [2, 0]), (28, .iconst 0, []), (29, .iconst (-1), []), (30, .invokevirtual 0, [5, 3, 4]), (33, .nop, [1])],
  [(33, .aload 0, []), (34, .aload 1, []), (35, .invokevirtual 0, [38, 2, 2]), (38, .aload 0, []), (39, .iconst 0, []), (40, .putfield 0, [2, 5, 0]), (43, .aload 0, []), (44, .aload 0, []), (45, .getfield 0, [2, 0]), (48, .invokevirtual 0, [1, 1, 4]), (51, .putfield 0, [2, 6, 0]), (54, .iload 2, []), (55, .ifCond .eq 0, [2]), (58, .iconst 3, []), (59, .goto 0, [3])],
  [(62, .iconst 2, []), (63, .nop, [3])],
  [(63, .istore 3, []), (64, .aload 0, []), (65, .getfield 0, [2, 0]), (68, .invokevirtual 0, [1, 1, 4]), (71, .istore 4, []), (73, .nop, [4])],
  [(73, .iload 4, []), (75, .iconst 1, []), (76, .if_icmp .le 0, [7]), (79, .iconst 0, []), (80, .istore 5, []), (82, .iconst 0, []), (83, .istore 6, []), (85, .nop, [5])],
  [(85, .iload 6, []), (87, .iload 3, []), (88, .if_icmp .ge 0, [6]), (91, .aload 0, []), (92, .invokevirtual 0, [39, 1, 2]), (95, .istore 7, []), (97, .iload 5, []), (99, .aload 0, []), (100, .getfield 0, [2, 1]), (103, .iload 7, []), (105, .invokevirtual 0, [2, 2, 4]), (108, .iadd, []), (109, .istore 5, []), (111, .aload 0, []), (112, .getfield 0, [2, 2]), (115, .iload 7, []), (117, .aload 0, []), (118, .getfield 0, [2, 1]), (121, .invokevirtual 0, [1, 1, 4]), (124, .invokevirtual 0, [3, 3, 4]), (127, .iinc 6 1, []), (130, .goto 0, [5])],
  [(133, .aload 0, []), (134, .getfield 0, [2, 1]), (137, .iload 5, []), (139, .invokevirtual 0, [4, 2, 4]), (142, .aload 0, []), (143, .getfield 0, [2, 2]), (146, .iconst (-1), []), (147, .invokevirtual 0, [4, 2, 4]), (150, .iload 4, []), (152, .iload 3, []), (153, .isub, []), (154, .iconst 1, []), (155, .iadd, []), (156, .istore 4, []), (158, .goto 0, [4])],
  [(161, .return_, [])]]
abbrev m_Forest_plant : Nat := 38
noncomputable def bk_Forest_plant : List (List AI) := [
  [(0, .aload 0, []), (1, .getfield 0, [2, 1]), (4, .invokevirtual 0, [7, 1, 4]), (7, .aload 0, []), (8, .getfield 0, [2, 2]), (11, .invokevirtual 0, [7, 1, 4]), (14, .iconst 0, []), (15, .istore 2, []), (16, .nop, [1])],
  [(16, .iload 2, []), (17, .aload 0, []), (18, .getfield 0, [2, 0]), (21, .invokevirtual 0, [1, 1, 4]), (24, .if_icmp .ge 0, [2]), (27, .aload 0, []), (28, .getfield 0, [2, 1]), (31, .aload 1, []), (32, .aload 0, []), (33, .getfield 0, [2, 0]), (36, .iload 2, []), (37, .invokevirtual 0, [2, 2, 4]), (40, .invokevirtual 0, [2, 2, 4]), (43, .invokevirtual 0, [4, 2, 4]), (46, .aload 0, []), (47, .getfield 0, [2, 2]), (50, .iconst (-1), []), (51, .invokevirtual 0, [4, 2, 4]), (54, .iinc 2 1, []), (57, .goto 0, [1])],
  [(60, .return_, [])]]
abbrev m_Forest_takeLightest : Nat := 39
noncomputable def bk_Forest_takeLightest : List (List AI) := [
  [(0, .aload 0, []), (1, .getfield 0, [2, 5]), (4, .aload 0, []), (5, .getfield 0, [2, 0]), (8, .invokevirtual 0, [1, 1, 4]), (11, .if_icmp .ge 0, [1]), (14, .iconst 1, []), (15, .goto 0, [2])],
  [(18, .iconst 0, []), (19, .nop, [2])],
  [(19, .istore 1, []), (20, .aload 0, []), (21, .getfield 0, [2, 6]), (24, .aload 0, []), (25, .getfield 0, [2, 1]), (28, .invokevirtual 0, [1, 1, 4]), (31, .if_icmp .ge 0, [3]), (34, .iconst 1, []), (35, .goto 0, [4])],
  [(38, .iconst 0, []), (39, .nop, [4])],
  [(39, .istore 2, []), (40, .iload 1, []), (41, .ifCond .eq 0, [6]), (44, .iload 2, []), (45, .ifCond .eq 0, [5]), (48, .aload 0, []), (49, .getfield 0, [2, 1]), (52, .aload 0, []), (53, .getfield 0, [2, 5]), (56, .invokevirtual 0, [2, 2, 4]), (59, .aload 0, []), (60, .getfield 0, [2, 1]), (63, .aload 0, []), (64, .getfield 0, [2, 6]), (67, .invokevirtual 0, [2, 2, 4]), (70, .if_icmp .gt 0, [6]), (73, .nop, [5])],
  [(73, .aload 0, []), (74, .dup, []), (75, .getfield 0, [2, 5]), (78, .iconst 1, []), (79, .iadd, []), (80, .putfield 0, [2, 5, 0]), (83, .aload 0, []), (84, .getfield 0, [2, 5]), (87, .iconst 1, []), (88, .isub, []), (89, .ireturn, [])],
  [(90, .aload 0, []), (91, .dup, []), (92, .getfield 0, [2, 6]), (95, .iconst 1, []), (96, .iadd, []), (97, .putfield 0, [2, 6, 0]), (100, .aload 0, []), (101, .getfield 0, [2, 6]), (104, .iconst 1, []), (105, .isub, []), (106, .ireturn, [])]]
abbrev m_Forest_joinInOrder : Nat := 40
noncomputable def bk_Forest_joinInOrder : List (List AI) := [
  [(0, .aload 0, []), (1, .getfield 0, [2, 0]), (4, .invokevirtual 0, [7, 1, 4]), (7, .iconst 0, []), (8, .istore 2, []), (9, .nop, [1])],
  [(9, .iload 2, []), (10, .aload 1, []), (11, .invokevirtual 0, [1, 1, 4]), (14, .if_icmp .ge 0, [3]), (17, .aload 1, []), (18, .iload 2, []), (19, .invokevirtual 0, [2, 2, 4]), (22, .ifCond .le 0, [2]), (25, .aload 0, []), (26, .getfield 0, [2, 0]), (29, .iload 2, []), (30, .invokevirtual 0, [4, 2, 4]), (33, .nop, [2])],
  [(33, .iinc 2 1, []), (36, .goto 0, [1])],
  [(39, .aload 0, []), (40, .aload 1, []), (41, .invokevirtual 0, [38, 2, 2]), (44, .aload 0, []), (45, .getfield 0, [2, 4]), (48, .invokevirtual 0, [7, 1, 4]), (51, .iconst 0, []), (52, .istore 2, []), (53, .nop, [4])],
  [(53, .iload 2, []), (54, .aload 0, []), (55, .getfield 0, [2, 0]), (58, .invokevirtual 0, [1, 1, 4]), (61, .if_icmp .ge 0, [5]), (64, .aload 0, []), (65, .getfield 0, [2, 4]), (68, .iload 2, []), (69, .invokevirtual 0, [4, 2, 4]), (72, .iinc 2 1, []), (75, .goto 0, [4])],
  [(78, .aload 0, []), (79, .getfield 0, [2, 0]), (82, .invokevirtual 0, [1, 1, 4]), (85, .istore 2, []), (86, .nop, [6])],
  [(86, .iload 2, []), (87, .iconst 1, []), (88, .if_icmp .le 0, [7]), (91, .aload 0, []), (92, .aload 0, []), (93, .invokevirtual 0, [42, 1, 2]), (96, .invokevirtual 0, [43, 2, 2]), (99, .iinc 2 (-1), []), (102, .goto 0, [6])],
  [(105, .return_, [])]]
abbrev m_Forest_weightInLine : Nat := 41
noncomputable def bk_Forest_weightInLine : List (List AI) := [
  [(0, .aload 0, []), (1, .getfield 0, [2, 1]), (4, .aload 0, []), (5, .getfield 0, [2, 4]), (8, .iload 1, []), (9, .invokevirtual 0, [2, 2, 4]), (12, .invokevirtual 0, [2, 2, 4]), (15, .ireturn, [])]]
abbrev m_Forest_firstToJoin : Nat := 42
noncomputable def bk_Forest_firstToJoin : List (List AI) := [
  [(0, .iconst 1, []), (1, .istore 1, []), (2, .nop, [1])],
  [(2, .iload 1, []), (3, .iconst 1, []), (4, .iadd, []), (5, .aload 0, []), (6, .getfield 0, [2, 4]), (9, .invokevirtual 0, [1, 1, 4]), (12, .if_icmp .ge 0, [3]), (15, .aload 0, []), (16, .iload 1, []), (17, .iconst 1, []), (18, .iadd, []), (19, .invokevirtual 0, [41, 2, 2]), (22, .aload 0, []), (23, .iload 1, []), (24, .iconst 1, []), (25, .isub, []), (26, .invokevirtual 0, [41, 2, 2]), (29, .if_icmp .lt 0, [2]), (32, .iload 1, []), (33, .ireturn, [])],
  [(34, .iinc 1 1, []), (37, .goto 0, [1])],
  [(40, .aload 0, []), (41, .getfield 0, [2, 4]), (44, .invokevirtual 0, [1, 1, 4]), (47, .iconst 1, []), (48, .isub, []), (49, .ireturn, [])]]
abbrev m_Forest_joinInLine : Nat := 43
noncomputable def bk_Forest_joinInLine : List (List AI) := [
  [(0, .aload 0, []), (1, .getfield 0, [2, 1]), (4, .invokevirtual 0, [1, 1, 4]), (7, .istore 2, []), (8, .aload 0, []), (9, .iload 1, []), (10, .iconst 1, []), (11, .isub, []), (12, .invokevirtual 0, [41, 2, 2]), (15, .aload 0, []), (16, .iload 1, []), (17, .invokevirtual 0, [41, 2, 2]), (20, .iadd, []), (21, .istore 3, []), (22, .aload 0, []), (23, .getfield 0, [2, 1]), (26, .iload 3, []), (27, .invokevirtual 0, [4, 2, 4]), (30, .aload 0, []), (31, .getfield 0, [2, 2]), (34, .iconst (-1), []), (35, .invokevirtual 0, [4, 2, 4]), (38, .aload 0, []), (39, .getfield 0, [2, 2]), (42, .aload 0, []), (43, .getfield 0, [2, 4]), (46, .iload 1, []), (47, .iconst 1, []), (48, .isub, []), (49, .invokevirtual 0, [2, 2, 4]), (52, .iload 2, []), (53, .invokevirtual 0, [3, 3, 4]), (56, .aload 0, []), (57, .getfield 0, [2, 2]), (60, .aload 0, []), (61, .getfield 0, [2, 4]), (64, .iload 1, []), (65, .invokevirtual 0, [2, 2, 4]), (68, .iload 2, []), (69, .invokevirtual 0, [3, 3, 4]), (72, .aload 0, []), (73, .getfield 0, [2, 4]), (76, .iload 1, []), (77, .invokevirtual 0, [6, 2, 4]), (80, .aload 0, []), (81, .getfield 0, [2, 4]), (84, .iload 1, []), (85, .iconst 1, []), (86, .isub, []), (87, .invokevirtual 0, [6, 2, 4]), (90, .iload 1, []), (91, .iconst 1, []), (92, .isub, []), (93, .istore 4, []), (95, .nop, [1])],
  [(95, .iload 4, []), (97, .ifCond .le 0, [2]), (100, .aload 0, []), (101, .iload 4, []), (103, .iconst 1, []), (104, .isub, []), (105, .invokevirtual 0, [41, 2, 2]), (108, .iload 3, []), (109, .if_icmp .ge 0, [2]), (112, .iinc 4 (-1), []), (115, .goto 0, [1])],
  [(118, .aload 0, []), (119, .getfield 0, [2, 4]), (122, .iload 4, []), (124, .iload 2, []), (125, .invokevirtual 0, [5, 3, 4]), (128, .return_, [])]]
abbrev m_Forest_measure : Nat := 44
noncomputable def bk_Forest_measure : List (List AI) := [
  [(0, .aload 0, []), (1, .getfield 0, [2, 3]), (4, .aload 0, []), (5, .getfield 0, [2, 1]), (8, .invokevirtual 0, [1, 1, 4]), (11, .iconst 0, []), (12, .invokevirtual 0, [8, 3, 4]), (15, .aload 0, []), (16, .getfield 0, [2, 1]), (19, .invokevirtual 0, [1, 1, 4]), (22, .iconst 2, []), (23, .isub, []), (24, .istore 2, []), (25, .nop, [1])],
  [(25, .iload 2, []), (26, .ifCond .lt 0, [2]), (29, .aload 0, []), (30, .getfield 0, [2, 3]), (33, .iload 2, []), (34, .aload 0, []), (35, .getfield 0, [2, 3]), (38, .aload 0, []), (39, .getfield 0, [2, 2]), (42, .iload 2, []), (43, .invokevirtual 0, [2, 2, 4]), (46, .invokevirtual 0, [2, 2, 4]), (49, .iconst 1, []), (50, .iadd, []), (51, .invokevirtual 0, [3, 3, 4]), (54, .iinc 2 (-1), []), (57, .goto 0, [1])],
  [(60, .aload 1, []), (61, .aload 1, []), (62, .invokevirtual 0, [1, 1, 4]), (65, .iconst (-1), []), (66, .invokevirtual 0, [8, 3, 4]), (69, .iconst 0, []), (70, .istore 2, []), (71, .nop, [3])],
  [(71, .iload 2, []), (72, .aload 0, []), (73, .getfield 0, [2, 0]), (76, .invokevirtual 0, [1, 1, 4]), (79, .if_icmp .ge 0, [4]), (82, .aload 1, []), (83, .aload 0, []), (84, .getfield 0, [2, 0]), (87, .iload 2, []), (88, .invokevirtual 0, [2, 2, 4]), (91, .aload 0, []), (92, .getfield 0, [2, 3]), (95, .iload 2, []), (96, .invokevirtual 0, [2, 2, 4]), (99, .invokevirtual 0, [3, 3, 4]), (102, .iinc 2 1, []), (105, .goto 0, [3])],
  [(108, .return_, [])]]
abbrev m_Forest_joinedWeight : Nat := 45
noncomputable def bk_Forest_joinedWeight : List (List AI) := [
  [(0, .iconst 0, []), (1, .istore 1, []), (2, .aload 0, []), (3, .getfield 0, [2, 0]), (6, .invokevirtual 0, [1, 1, 4]), (9, .istore 2, []), (10, .nop, [1])],
  [(10, .iload 2, []), (11, .aload 0, []), (12, .getfield 0, [2, 1]), (15, .invokevirtual 0, [1, 1, 4]), (18, .if_icmp .ge 0, [2]), (21, .iload 1, []), (22, .aload 0, []), (23, .getfield 0, [2, 1]), (26, .iload 2, []), (27, .invokevirtual 0, [2, 2, 4]), (30, .iadd, []), (31, .istore 1, []), (32, .iinc 2 1, []), (35, .goto 0, [1])],
  [(38, .iload 1, []), (39, .ireturn, [])]]
abbrev m_Coins_init : Nat := 46
noncomputable def bk_Coins_init : List (List AI) := [
  [(0, .aload 0, []), (1, .invokespecial 0, []), (4, .aload 0, []), (5, .new 0, [4, 0]), (8, .dup, []), (9, .iconst 26, []), (11, .invokespecial 0, [0, 2]), (14, .putfield 0, [1, 0, 2]), (17, .aload 0, []), (18, .new 0, [4, 0]), (21, .dup, []), (22, .iconst 52, []), (24, .invokespecial 0, [0, 2]), (27, .putfield 0, [1, 1, 2]), (30, .aload 0, []), (31, .new 0, [4, 0]), (34, .dup, []), (35, .iconst 52, []), (37, .invokespecial 0, [0, 2]), (40, .putfield 0, [1, 2, 2]), (43, .aload 0, []), (44, .new 0, [4, 0]), (47, .dup, []), (48, .iconst 1300, []), (51, .invokespecial 0, [0, 2]), (54, .putfield 0, [1, 3, 2]), (57, .return_, [])]]
abbrev m_Coins_measure : Nat := 47
noncomputable def bk_Coins_measure : List (List AI) := [
  [(0, .aload 0, []), (1, .getfield 0, [1, 0]), (4, .aload 1, []), (5, .invokevirtual 0, [15, 2, 4]), (8, .aload 0, []), (9, .getfield 0, [1, 2]), (12, .invokevirtual 0, [7, 1, 4]), (15, .aload 0, []), (16, .getfield 0, [1, 3]), (19, .iload 2, []), (20, .iconst 52, []), (22, .imul, []), (23, .iconst 0, []), (24, .invokevirtual 0, [8, 3, 4]), (27, .iconst 0, []), (28, .istore 4, []), (30, .nop, [1])],
  [(30, .iload 4, []), (32, .iload 2, []), (33, .if_icmp .ge 0, [2]), (36, .aload 0, []), (37, .getfield 0, [1, 1]), (40, .aload 0, []), (41, .getfield 0, [1, 2]), (44, .invokevirtual 0, [9, 2, 4]), (47, .aload 0, []), (48, .aload 1, []), (49, .iload 4, []), (51, .invokevirtual 0, [49, 3, 1]), (54, .iinc 4 1, []), (57, .goto 0, [1])],
  [(60, .aload 3, []), (61, .iconst 26, []), (63, .iconst (-1), []), (64, .invokevirtual 0, [8, 3, 4]), (67, .iconst 0, []), (68, .istore 4, []), (70, .nop, [3])],
  [(70, .iload 4, []), (72, .aload 0, []), (73, .getfield 0, [1, 0]), (76, .invokevirtual 0, [1, 1, 4]), (79, .if_icmp .ge 0, [4]), (82, .aload 3, []), (83, .aload 0, []), (84, .getfield 0, [1, 0]), (87, .iload 4, []), (89, .invokevirtual 0, [2, 2, 4]), (92, .iconst 0, []), (93, .invokevirtual 0, [3, 3, 4]), (96, .iinc 4 1, []), (99, .goto 0, [3])],
  [(102, .aload 0, []), (103, .iload 2, []), (104, .aload 3, []), (105, .invokevirtual 0, [50, 3, 1]), (108, .return_, [])]]
abbrev m_Coins_packageWeight : Nat := 48
noncomputable def bk_Coins_packageWeight : List (List AI) := [
  [(0, .aload 0, []), (1, .getfield 0, [1, 1]), (4, .iconst 2, []), (5, .iload 1, []), (6, .imul, []), (7, .invokevirtual 0, [2, 2, 4]), (10, .aload 0, []), (11, .getfield 0, [1, 1]), (14, .iconst 2, []), (15, .iload 1, []), (16, .imul, []), (17, .iconst 1, []), (18, .iadd, []), (19, .invokevirtual 0, [2, 2, 4]), (22, .iadd, []), (23, .ireturn, [])]]
abbrev m_Coins_layRow : Nat := 49
noncomputable def bk_Coins_layRow : List (List AI) := [
  [(0, .aload 0, []), (1, .getfield 0, [1, 2]), (4, .invokevirtual 0, [7, 1, 4]), (7, .aload 0, []), (8, .getfield 0, [1, 1]), (11, .invokevirtual 0, [1, 1, 4]), (14, .iconst 2, []), (15, .idiv, []), (16, .istore 3, []), (17, .iconst 0, []), (18, .istore 4, []), (20, .iconst 0, []), (21, .istore 5, []), (23, .nop, [1])],
  [(23, .iload 4, []), (25, .aload 0, []), (26, .getfield 0, [1, 0]), (29, .invokevirtual 0, [1, 1, 4]), (32, .if_icmp .lt 0, [2]), (35, .iload 5, []), (37, .iload 3, []), (38, .if_icmp .ge 0, [6]), (41, .nop, [2])],
  [(41, .aload 1, []), (42, .aload 0, []), (43, .getfield 0, [1, 0]), (46, .iload 4, []), (48, .invokevirtual 0, [2, 2, 4]), (51, .invokevirtual 0, [2, 2, 4]), (54, .istore 6, []), (56, .iload 5, []), (58, .iload 3, []), (59, .if_icmp .ge 0, [3]), (62, .iload 4, []), (64, .aload 0, []), (65, .getfield 0, [1, 0]), (68, .invokevirtual 0, [1, 1, 4]), (71, .if_icmp .ge 0, [4]), (74, .iload 6, []), (76, .aload 0, []), (77, .iload 5, []), (79, .invokevirtual 0, [48, 2, 1]), (82, .if_icmp .gt 0, [4]), (85, .nop, [3])],
  [(85, .aload 0, []), (86, .getfield 0, [1, 2]), (89, .iload 6, []), (91, .invokevirtual 0, [4, 2, 4]), (94, .iinc 4 1, []), (97, .goto 0, [5])],
  [(100, .aload 0, []), (101, .getfield 0, [1, 2]), (104, .aload 0, []), (105, .iload 5, []), (107, .invokevirtual 0, [48, 2, 1]), (110, .invokevirtual 0, [4, 2, 4]), (113, .iinc 5 1, []), (116, .nop, [5])],
  [(116, .aload 0, []), (117, .getfield 0, [1, 3]), (120, .iload 2, []), (121, .iconst 52, []), (123, .imul, []), (124, .aload 0, []), (125, .getfield 0, [1, 2]), (128, .invokevirtual 0, [1, 1, 4]), (131, .iadd, []), (132, .iload 4, []), (134, .invokevirtual 0, [3, 3, 4]), (137, .goto 0, [1])],
  [(140, .return_, [])]]
abbrev m_Coins_countTaken : Nat := 50
noncomputable def bk_Coins_countTaken : List (List AI) := [
  [(0, .iconst 2, []), (1, .aload 0, []), (2, .getfield 0, [1, 0]), (5, .invokevirtual 0, [1, 1, 4]), (8, .imul, []), (9, .iconst 2, []), (10, .isub, []), (11, .istore 3, []), (12, .iload 1, []), (13, .iconst 1, []), (14, .isub, []), (15, .istore 4, []), (17, .nop, [1])],
  [(17, .iload 4, []), (19, .ifCond .lt 0, [4]), (22, .iload 3, []), (23, .ifCond .le 0, [4]), (26, .aload 0, []), (27, .getfield 0, [1, 3]), (30, .iload 4, []), (32, .iconst 52, []), (34, .imul, []), (35, .iload 3, []), (36, .iadd, []), (37, .invokevirtual 0, [2, 2, 4]), (40, .istore 5, []), (42, .iconst 0, []), (43, .istore 6, []), (45, .nop, [2])],
  [(45, .iload 6, []), (47, .iload 5, []), (49, .if_icmp .ge 0, [3]), (52, .aload 0, []), (53, .getfield 0, [1, 0]), (56, .iload 6, []), (58, .invokevirtual 0, [2, 2, 4]), (61, .istore 7, []), (63, .aload 2, []), (64, .iload 7, []), (66, .aload 2, []), (67, .iload 7, []), (69, .invokevirtual 0, [2, 2, 4]), (72, .iconst 1, []), (73, .iadd, []), (74, .invokevirtual 0, [3, 3, 4]), (77, .iinc 6 1, []), (80, .goto 0, [2])],
  [(83, .iconst 2, []), (84, .iload 3, []), (85, .iload 5, []), (87, .isub, []), (88, .imul, []), (89, .istore 3, []), (90, .iinc 4 (-1), []), (93, .goto 0, [1])],
  [(96, .return_, [])]]
abbrev m_Growing_init : Nat := 51
noncomputable def bk_Growing_init : List (List AI) := [
  [(0, .aload 0, []), (1, .invokespecial 0, []), (4, .aload 0, []), (5, .new 0, [4, 0]), (8, .dup, []), (9, .iconst 27, []), (11, .invokespecial 0, [0, 2]), (14, .putfield 0, [3, 0, 2]), (17, .aload 0, []), (18, .new 0, [0, 0]), (21, .dup, []), (22, .iconst 104, []), (24, .iconst 27, []), (26, .invokespecial 0, [16, 3]), (29, .putfield 0, [3, 1, 2]), (32, .aload 0, []), (33, .new 0, [2, 0]), (36, .dup, []), (37, .invokespecial 0, [36, 1]), (40, .putfield 0, [3, 2, 2]), (43, .return_, [])]]
abbrev m_Growing_lay : Nat := 52
noncomputable def bk_Growing_lay : List (List AI) := [
  [(0, .aload 2, []), (1, .invokevirtual 0, [7, 1, 4]), (4, .aload 0, []), (5, .invokevirtual 0, [54, 1, 3]), (8, .iconst 0, []), (9, .istore 3, []), (10, .nop, [1])],
  [(10, .iload 3, []), (11, .aload 1, []), (12, .invokevirtual 0, [1, 1, 4]), (15, .if_icmp .ge 0, [4]), (18, .aload 0, []), (19, .invokevirtual 0, [55, 1, 3]), (22, .aload 1, []), (23, .iload 3, []), (24, .invokevirtual 0, [2, 2, 4]), (27, .istore 4, []), (29, .aload 0, []), (30, .getfield 0, [3, 0]), (33, .iload 4, []), (35, .invokevirtual 0, [2, 2, 4]), (38, .ifCond .le 0, [2]), (41, .aload 0, []), (42, .getfield 0, [3, 1]), (45, .iload 4, []), (47, .aload 2, []), (48, .invokevirtual 0, [32, 3, 0]), (51, .goto 0, [3])],
  [(54, .aload 0, []), (55, .getfield 0, [3, 1]), (58, .iconst 26, []), (60, .aload 2, []), (61, .invokevirtual 0, [32, 3, 0]), (64, .iload 4, []), (66, .aload 2, []), (67, .invokestatic 0, [56, 2]), (70, .nop, [3])],
  [(70, .aload 0, []), (71, .iload 4, []), (73, .invokevirtual 0, [57, 2, 3]), (76, .iinc 3 1, []), (79, .goto 0, [1])],
  [(82, .return_, [])]]
abbrev m_Growing_gather : Nat := 53
noncomputable def bk_Growing_gather : List (List AI) := [
  [(0, .aload 3, []), (1, .invokevirtual 0, [7, 1, 4]), (4, .aload 0, []), (5, .invokevirtual 0, [54, 1, 3]), (8, .iconst 0, []), (9, .istore 4, []), (11, .iconst 0, []), (12, .istore 5, []), (14, .nop, [1])],
  [(14, .iload 5, []), (16, .iload 2, []), (17, .if_icmp .ge 0, [5]), (20, .aload 0, []), (21, .invokevirtual 0, [55, 1, 3]), (24, .aload 0, []), (25, .getfield 0, [3, 1]), (28, .aload 1, []), (29, .iload 4, []), (31, .iconst (-1), []), (32, .invokevirtual 0, [33, 4, 0]), (35, .istore 6, []), (37, .iload 6, []), (39, .ifCond .ge 0, [2]), (42, .return_, [])],
  [(43, .iload 4, []), (45, .aload 0, []), (46, .getfield 0, [3, 1]), (49, .getfield 0, [0, 1]), (52, .iload 6, []), (54, .invokevirtual 0, [2, 2, 4]), (57, .iadd, []), (58, .istore 4, []), (60, .iload 6, []), (62, .iconst 26, []), (64, .if_icmp .ne 0, [4]), (67, .aload 1, []), (68, .iload 4, []), (70, .iconst 5, []), (71, .invokestatic 0, [140, 3]), (74, .istore 6, []), (76, .iinc 4 5, []), (79, .iload 4, []), (81, .aload 1, []), (82, .invokevirtual 0, [1, 1, 4]), (85, .if_icmp .gt 0, [3]), (88, .iload 6, []), (90, .iconst 26, []), (92, .if_icmp .lt 0, [4]), (95, .nop, [3])],
  [(95, .return_, [])],
  [(96, .aload 3, []), (97, .iload 6, []), (99, .invokevirtual 0, [4, 2, 4]), (102, .aload 0, []), (103, .iload 6, []), (105, .invokevirtual 0, [57, 2, 3]), (108, .iinc 5 1, []), (111, .goto 0, [1])],
  [(114, .return_, [])]]
abbrev m_Growing_start : Nat := 54
noncomputable def bk_Growing_start : List (List AI) := [
  [(0, .aload 0, []), (1, .getfield 0, [3, 0]), (4, .iconst 27, []), (6, .iconst 0, []), (7, .invokevirtual 0, [8, 3, 4]), (10, .aload 0, []), (11, .getfield 0, [3, 0]), (14, .iconst 26, []), (16, .iconst 1, []), (17, .invokevirtual 0, [3, 3, 4]), (20, .return_, [])]]
abbrev m_Growing_makeCode : Nat := 55
noncomputable def bk_Growing_makeCode : List (List AI) := [
  [(0, .aload 0, []), (1, .getfield 0, [3, 2]), (4, .aload 0, []), (5, .getfield 0, [3, 0]), (8, .iconst 0, []), (9, .invokevirtual 0, [37, 3, 2]), (12, .aload 0, []), (13, .getfield 0, [3, 2]), (16, .aload 0, []), (17, .getfield 0, [3, 1]), (20, .getfield 0, [0, 1]), (23, .invokevirtual 0, [44, 2, 2]), (26, .aload 0, []), (27, .getfield 0, [3, 1]), (30, .invokevirtual 0, [23, 1, 0]), (33, .return_, [])]]
abbrev m_Growing_layNumber : Nat := 56
noncomputable def bk_Growing_layNumber : List (List AI) := [
  [(0, .iconst 4, []), (1, .istore 2, []), (2, .nop, [1])],
  [(2, .iload 2, []), (3, .ifCond .lt 0, [2]), (6, .aload 1, []), (7, .iload 0, []), (8, .iload 2, []), (9, .ishr, []), (10, .iconst 1, []), (11, .iand, []), (12, .invokevirtual 0, [4, 2, 4]), (15, .iinc 2 (-1), []), (18, .goto 0, [1])],
  [(21, .return_, [])]]
abbrev m_Growing_grow : Nat := 57
noncomputable def bk_Growing_grow : List (List AI) := [
  [(0, .aload 0, []), (1, .getfield 0, [3, 0]), (4, .iload 1, []), (5, .aload 0, []), (6, .getfield 0, [3, 0]), (9, .iload 1, []), (10, .invokevirtual 0, [2, 2, 4]), (13, .iconst 1, []), (14, .iadd, []), (15, .invokevirtual 0, [3, 3, 4]), (18, .aload 0, []), (19, .getfield 0, [3, 0]), (22, .invokevirtual 0, [13, 1, 4]), (25, .iconst 40, []), (27, .if_icmp .le 0, [2]), (30, .iconst 0, []), (31, .istore 2, []), (32, .nop, [1])],
  [(32, .iload 2, []), (33, .aload 0, []), (34, .getfield 0, [3, 0]), (37, .invokevirtual 0, [1, 1, 4]), (40, .if_icmp .ge 0, [2]), (43, .aload 0, []), (44, .getfield 0, [3, 0]), (47, .iload 2, []), (48, .aload 0, []), (49, .getfield 0, [3, 0]), (52, .iload 2, []), (53, .invokevirtual 0, [2, 2, 4]), (56, .iconst 1, []), (57, .iadd, []), (58, .iconst 2, []), (59, .idiv, []), (60, .invokevirtual 0, [3, 3, 4]), (63, .iinc 2 1, []), (66, .goto 0, [1])],
  [(69, .return_, [])]]
abbrev m_Sh_init : Nat := 58
noncomputable def bk_Sh_init : List (List AI) := [
  [(0, .aload 0, []), (1, .invokespecial 0, []), (4, .aload 0, []), (5, .new 0, [4, 0]), (8, .dup, []), (9, .iconst 120, []), (11, .invokespecial 0, [0, 2]), (14, .putfield 0, [5, 0, 2]), (17, .aload 0, []), (18, .new 0, [4, 0]), (21, .dup, []), (22, .iconst 26, []), (24, .invokespecial 0, [0, 2]), (27, .putfield 0, [5, 1, 2]), (30, .aload 0, []), (31, .new 0, [7, 0]), (34, .dup, []), (35, .invokespecial 0, [246, 1]), (38, .putfield 0, [5, 2, 2]), (41, .aload 0, []), (42, .new 0, [4, 0]), (45, .dup, []), (46, .iconst 3000, []), (49, .invokespecial 0, [0, 2]), (52, .putfield 0, [5, 3, 2]), (55, .aload 0, []), (56, .iconst 0, []), (57, .putfield 0, [5, 4, 0]), (60, .aload 0, []), (61, .new 0, [2, 0]), (64, .dup, []), (65, .invokespecial 0, [36, 1]), (68, .putfield 0, [5, 5, 2]), (71, .aload 0, []), (72, .new 0, [1, 0]), (75, .dup, []), (76, .invokespecial 0, [46, 1]), (79, .putfield 0, [5, 6, 2]), (82, .aload 0, []), (83, .new 0, [3, 0]), (86, .dup, []), (87, .invokespecial 0, [51, 1]), (90, .putfield 0, [5, 7, 2]), (93, .aload 0, []), (94, .new 0, [4, 0]), (97, .dup, []), (98, .iconst 8, []), (100, .invokespecial 0, [0, 2]), (103, .putfield 0, [5, 8, 2]), (106, .aload 0, []), (107, .new 0, [4, 0]), (110, .dup, []), (111, .iconst 26, []), (113, .invokespecial 0, [0, 2]), (116, .putfield 0, [5, 9, 2]), (119, .aload 0, []), (120, .new 0, [4, 0]), (123, .dup, []), (124, .iconst 26, []), (126, .invokespecial 0, [0, 2]), (129, .putfield 0, [5, 10, 2]), (132, .aload 0, []), (133, .new 0, [4, 0]), (136, .dup, []), (137, .iconst 26, []), (139, .invokespecial 0, [0, 2]), (142, .putfield 0, [5, 11, 2]), (145, .aload 0, []), (146, .new 0, [4, 0]), (149, .dup, []), (150, .iconst 120, []), (152, .invokespecial 0, [0, 2]), (155, .putfield 0, [5, 12, 2]), (158, .aload 0, []), (159, .new 0, [4, 0]), (162, .dup, []), (163, .iconst 120, []), (165, .invokespecial 0, [0, 2]), (168, .putfield 0, [5, 13, 2]), (171, .aload 0, []), (172, .new 0, [4, 0]), (175, .dup, []), (176, .iconst 240, []), (179, .invokespecial 0, [0, 2]), (182, .putfield 0, [5, 14, 2]), (185, .aload 0, []), (186, .new 0, [4, 0]), (189, .dup, []), (190, .iconst 120, []), (192, .invokespecial 0, [0, 2]), (195, .putfield 0, [5, 15, 2]), (198, .aload 0, []), (199, .new 0, [4, 0]), (202, .dup, []), (203, .iconst 3000, []), (206, .invokespecial 0, [0, 2]), (209, .putfield 0, [5, 16, 2]), (212, .aload 0, []), (213, .getfield 0, [5, 1]), (216, .iconst 26, []), (218, .iconst 0, []), (219, .invokevirtual 0, [8, 3, 4]), (222, .aload 0, []), (223, .getfield 0, [5, 10]), (226, .iconst 26, []), (228, .iconst (-1), []), (229, .invokevirtual 0, [8, 3, 4]), (232, .return_, [])]]
abbrev m_Sh_type : Nat := 59
noncomputable def bk_Sh_type : List (List AI) := [
  [(0, .iload 1, []), (1, .invokestatic 0, [111, 1]), (4, .istore 2, []), (5, .aload 0, []), (6, .iconst 1, []), (7, .invokevirtual 0, [113, 2, 5]), (10, .aload 0, []), (11, .getfield 0, [5, 0]), (14, .iload 2, []), (15, .invokevirtual 0, [4, 2, 4]), (18, .aload 0, []), (19, .getfield 0, [5, 0]), (22, .invokevirtual 0, [1, 1, 4]), (25, .ireturn, [])]]
abbrev m_Sh_typeMore : Nat := 60
noncomputable def bk_Sh_typeMore : List (List AI) := [
  [(0, .iload 1, []), (1, .iconst 1, []), (2, .if_icmp .lt 0, [1]), (5, .iload 1, []), (6, .iconst 8, []), (8, .if_icmp .le 0, [2]), (11, .nop, [1])],
  [(11, .new 0, [8, 1])],
  [(21, .aload 0, []), (22, .getfield 0, [5, 8]), (25, .invokevirtual 0, [7, 1, 4]), (28, .aload 0, []), (29, .getfield 0, [5, 8]), (32, .iload 2, []), (33, .invokevirtual 0, [4, 2, 4]), (36, .aload 0, []), (37, .getfield 0, [5, 8]), (40, .iload 3, []), (41, .invokevirtual 0, [4, 2, 4]), (44, .aload 0, []), (45, .getfield 0, [5, 8]), (48, .iload 4, []), (50, .invokevirtual 0, [4, 2, 4]), (53, .aload 0, []), (54, .getfield 0, [5, 8]), (57, .iload 5, []), (59, .invokevirtual 0, [4, 2, 4]), (62, .aload 0, []), (63, .getfield 0, [5, 8]), (66, .iload 6, []), (68, .invokevirtual 0, [4, 2, 4]), (71, .aload 0, []), (72, .getfield 0, [5, 8]), (75, .iload 7, []), (77, .invokevirtual 0, [4, 2, 4]), (80, .aload 0, []), (81, .getfield 0, [5, 8]), (84, .iload 8, []), (86, .invokevirtual 0, [4, 2, 4]), (89, .aload 0, []), (90, .getfield 0, [5, 8]), (93, .iload 9, []), (95, .invokevirtual 0, [4, 2, 4]), (98, .iconst 0, []), (99, .istore 10, []), (101, .nop, [3])],
  [(101, .iload 10, []), (103, .iload 1, []), (104, .if_icmp .ge 0, [4]), (107, .aload 0, []), (108, .getfield 0, [5, 8]), (111, .iload 10, []), (113, .aload 0, []), (114, .getfield 0, [5, 8]), (117, .iload 10, []), (119, .invokevirtual 0, [2, 2, 4]), (122, .i2c, []), (123, .invokestatic 0, [111, 1]), (126, .invokevirtual 0, [3, 3, 4]), (129, .iinc 10 1, []), (132, .goto 0, [3])],
  [(135, .aload 0, []), (136, .iload 1, []), (137, .invokevirtual 0, [113, 2, 5]), (140, .iconst 0, []), (141, .istore 10, []), (143, .nop, [5])],
  [(143, .iload 10, []), (145, .iload 1, []), (146, .if_icmp .ge 0, [6]), (149, .aload 0, []), (150, .getfield 0, [5, 0]), (153, .aload 0, []), (154, .getfield 0, [5, 8]), (157, .iload 10, []), (159, .invokevirtual 0, [2, 2, 4]), (162, .invokevirtual 0, [4, 2, 4]), (165, .iinc 10 1, []), (168, .goto 0, [5])],
  [(171, .aload 0, []), (172, .getfield 0, [5, 0]), (175, .invokevirtual 0, [1, 1, 4]), (178, .ireturn, [])]]
abbrev m_Sh_wipe : Nat := 61
noncomputable def bk_Sh_wipe : List (List AI) := [
  [(0, .aload 0, []), (1, .getfield 0, [5, 0]), (4, .invokevirtual 0, [1, 1, 4]), (7, .istore 1, []), (8, .aload 0, []), (9, .getfield 0, [5, 0]), (12, .invokevirtual 0, [7, 1, 4]), (15, .iload 1, []), (16, .ireturn, [])]]
abbrev m_Sh_length : Nat := 62
noncomputable def bk_Sh_length : List (List AI) := [
  [(0, .aload 0, []), (1, .getfield 0, [5, 0]), (4, .invokevirtual 0, [1, 1, 4]), (7, .ireturn, [])]]
abbrev m_Sh_typed : Nat := 63
noncomputable def bk_Sh_typed : List (List AI) := [
  [(0, .iload 1, []), (1, .ifCond .lt 0, [1]), (4, .iload 1, []), (5, .aload 0, []), (6, .getfield 0, [5, 0]), (9, .invokevirtual 0, [1, 1, 4]), (12, .if_icmp .lt 0, [2]), (15, .nop, [1])],
  [(15, .new 0, [10, 1])],
  [(25, .aload 0, []), (26, .getfield 0, [5, 0]), (29, .iload 1, []), (30, .invokevirtual 0, [2, 2, 4]), (33, .invokestatic 0, [112, 1]), (36, .ireturn, [1])]]
abbrev m_Sh_set : Nat := 64
noncomputable def bk_Sh_set : List (List AI) := [
  [(0, .iload 1, []), (1, .invokestatic 0, [111, 1]), (4, .istore 3, []), (5, .iload 2, []), (6, .ifCond .lt 0, [1]), (9, .iload 2, []), (10, .iconst 9999, []), (13, .if_icmp .le 0, [2]), (16, .nop, [1])],
  [(16, .new 0, [8, 1])],
  [(26, .aload 0, []), (27, .getfield 0, [5, 1]), (30, .iload 3, []), (31, .invokevirtual 0, [2, 2, 4]), (34, .istore 4, []), (36, .aload 0, []), (37, .getfield 0, [5, 1]), (40, .iload 3, []), (41, .iload 2, []), (42, .invokevirtual 0, [3, 3, 4]), (45, .iload 4, []), (47, .ireturn, [])]]
abbrev m_Sh_count : Nat := 65
noncomputable def bk_Sh_count : List (List AI) := [
  [(0, .aload 0, []), (1, .getfield 0, [5, 1]), (4, .iload 1, []), (5, .invokestatic 0, [111, 1]), (8, .invokevirtual 0, [2, 2, 4]), (11, .ireturn, [])]]
abbrev m_Sh_take : Nat := 66
noncomputable def bk_Sh_take : List (List AI) := [
  [(0, .aload 0, []), (1, .iconst 0, []), (2, .aload 0, []), (3, .getfield 0, [5, 0]), (6, .invokevirtual 0, [1, 1, 4]), (9, .aload 0, []), (10, .getfield 0, [5, 1]), (13, .invokevirtual 0, [125, 4, 5]), (16, .aload 0, []), (17, .invokevirtual 0, [124, 1, 5]), (20, .ireturn, [])]]
abbrev m_Sh_clear : Nat := 67
noncomputable def bk_Sh_clear : List (List AI) := [
  [(0, .aload 0, []), (1, .getfield 0, [5, 1]), (4, .invokevirtual 0, [13, 1, 4]), (7, .istore 1, []), (8, .aload 0, []), (9, .getfield 0, [5, 1]), (12, .iconst 26, []), (14, .iconst 0, []), (15, .invokevirtual 0, [8, 3, 4]), (18, .iload 1, []), (19, .ireturn, [])]]
abbrev m_Sh_least : Nat := 68
noncomputable def bk_Sh_least : List (List AI) := [
  [(0, .aload 0, []), (1, .invokevirtual 0, [114, 1, 5]), (4, .aload 0, []), (5, .invokevirtual 0, [115, 1, 5]), (8, .aload 0, []), (9, .iconst 0, []), (10, .invokevirtual 0, [126, 2, 5]), (13, .aload 0, []), (14, .iconst 104, []), (16, .invokevirtual 0, [136, 2, 5]), (19, .ireturn, [])]]
abbrev m_Sh_bounded : Nat := 69
noncomputable def bk_Sh_bounded : List (List AI) := [
  [(0, .iload 1, []), (1, .invokestatic 0, [116, 1]), (4, .aload 0, []), (5, .invokevirtual 0, [114, 1, 5]), (8, .aload 0, []), (9, .iload 1, []), (10, .invokevirtual 0, [117, 2, 5]), (13, .aload 0, []), (14, .invokevirtual 0, [115, 1, 5]), (17, .aload 0, []), (18, .getfield 0, [5, 6]), (21, .aload 0, []), (22, .getfield 0, [5, 1]), (25, .iload 1, []), (26, .aload 0, []), (27, .getfield 0, [5, 10]), (30, .invokevirtual 0, [47, 4, 1]), (33, .aload 0, []), (34, .iconst 98, []), (36, .invokevirtual 0, [136, 2, 5]), (39, .ireturn, [])]]
abbrev m_Sh_ordered : Nat := 70
noncomputable def bk_Sh_ordered : List (List AI) := [
  [(0, .aload 0, []), (1, .invokevirtual 0, [114, 1, 5]), (4, .aload 0, []), (5, .invokevirtual 0, [115, 1, 5]), (8, .aload 0, []), (9, .getfield 0, [5, 5]), (12, .aload 0, []), (13, .getfield 0, [5, 1]), (16, .invokevirtual 0, [40, 2, 2]), (19, .aload 0, []), (20, .getfield 0, [5, 5]), (23, .aload 0, []), (24, .getfield 0, [5, 10]), (27, .invokevirtual 0, [44, 2, 2]), (30, .new 0, [0, 0]), (33, .dup, []), (34, .iconst 111, []), (36, .iconst 26, []), (38, .invokespecial 0, [16, 3]), (41, .astore 1, []), (42, .aload 1, []), (43, .getfield 0, [0, 1]), (46, .aload 0, []), (47, .getfield 0, [5, 10]), (50, .invokevirtual 0, [9, 2, 4]), (53, .aload 1, []), (54, .invokevirtual 0, [24, 1, 0]), (57, .aload 0, []), (58, .aload 1, []), (59, .invokevirtual 0, [137, 2, 5]), (62, .ireturn, [])]]
abbrev m_Sh_triple : Nat := 71
noncomputable def bk_Sh_triple : List (List AI) := [
  [(0, .aload 0, []), (1, .invokevirtual 0, [114, 1, 5]), (4, .aload 0, []), (5, .invokevirtual 0, [115, 1, 5]), (8, .aload 0, []), (9, .iconst 1, []), (10, .invokevirtual 0, [126, 2, 5]), (13, .aload 0, []), (14, .iconst 116, []), (16, .invokevirtual 0, [136, 2, 5]), (19, .ireturn, [])]]
abbrev m_Sh_byLengths : Nat := 72
noncomputable def bk_Sh_byLengths : List (List AI) := [
  [(0, .aload 0, []), (1, .getfield 0, [5, 0]), (4, .invokevirtual 0, [1, 1, 4]), (7, .iconst 26, []), (9, .if_icmp .le 0, [1]), (12, .new 0, [8, 1])],
  [(22, .aload 0, []), (23, .getfield 0, [5, 10]), (26, .iconst 26, []), (28, .iconst (-1), []), (29, .invokevirtual 0, [8, 3, 4]), (32, .iconst 0, []), (33, .istore 1, []), (34, .nop, [2])],
  [(34, .iload 1, []), (35, .aload 0, []), (36, .getfield 0, [5, 0]), (39, .invokevirtual 0, [1, 1, 4]), (42, .if_icmp .ge 0, [4]), (45, .aload 0, []), (46, .getfield 0, [5, 0]), (49, .iload 1, []), (50, .invokevirtual 0, [2, 2, 4]), (53, .ifCond .le 0, [3]), (56, .aload 0, []), (57, .getfield 0, [5, 10]), (60, .iload 1, []), (61, .aload 0, []), (62, .getfield 0, [5, 0]), (65, .iload 1, []), (66, .invokevirtual 0, [2, 2, 4]), (69, .invokevirtual 0, [3, 3, 4]), (72, .nop, [3])],
  [(72, .iinc 1 1, []), (75, .goto 0, [2])],
  [(78, .new 0, [0, 0]), (81, .dup, []), (82, .iconst 107, []), (84, .iconst 26, []), (86, .invokespecial 0, [16, 3]), (89, .astore 1, []), (90, .aload 1, []), (91, .getfield 0, [0, 1]), (94, .aload 0, []), (95, .getfield 0, [5, 10]), (98, .invokevirtual 0, [9, 2, 4]), (101, .aload 1, []), (102, .invokevirtual 0, [18, 1, 0]), (105, .ifCond .ne 0, [5]), (108, .new 0, [11, 1])],
  [(118, .aload 1, []), (119, .invokevirtual 0, [26, 1, 0]), (122, .ldc2_w 0, [33554432, 0]), (125, .lcmp, []), (126, .ifCond .le 0, [6]), (129, .new 0, [12, 1])],
  [(139, .aload 0, []), (140, .invokevirtual 0, [115, 1, 5]), (143, .aload 1, []), (144, .invokevirtual 0, [23, 1, 0]), (147, .aload 0, []), (148, .aload 1, []), (149, .invokevirtual 0, [137, 2, 5]), (152, .ireturn, [])]]
abbrev m_Sh_forget : Nat := 73
noncomputable def bk_Sh_forget : List (List AI) := [
  [(0, .aload 0, []), (1, .getfield 0, [5, 2]), (4, .invokevirtual 0, [249, 1, 7]), (9, .istore 1, []), (10, .aload 0, []), (11, .getfield 0, [5, 2]), (14, .invokevirtual 0, [254, 1, 7]), (19, .iload 1, []), (20, .ireturn, [])]]
abbrev m_Sh_codes : Nat := 74
noncomputable def bk_Sh_codes : List (List AI) := [
  [(0, .aload 0, []), (1, .getfield 0, [5, 2]), (4, .invokevirtual 0, [249, 1, 7]), (9, .ireturn, [])]]
abbrev m_Sh_kindOf : Nat := 75
noncomputable def bk_Sh_kindOf : List (List AI) := [
  [(0, .aload 0, []), (1, .iload 1, []), (2, .invokevirtual 0, [120, 2, 5]), (5, .getfield 0, [0, 0]), (8, .ireturn, [1])]]
abbrev m_Sh_signs : Nat := 76
noncomputable def bk_Sh_signs : List (List AI) := [
  [(0, .aload 0, []), (1, .iload 1, []), (2, .invokevirtual 0, [120, 2, 5]), (5, .invokevirtual 0, [18, 1, 0]), (8, .ireturn, [])]]
abbrev m_Sh_signAt : Nat := 77
noncomputable def bk_Sh_signAt : List (List AI) := [
  [(0, .aload 0, []), (1, .iload 1, []), (2, .invokevirtual 0, [120, 2, 5]), (5, .astore 3, []), (6, .iload 2, []), (7, .ifCond .lt 0, [1]), (10, .iload 2, []), (11, .aload 3, []), (12, .invokevirtual 0, [18, 1, 0]), (15, .if_icmp .lt 0, [2]), (18, .nop, [1])],
  [(18, .new 0, [10, 1])],
  [(28, .aload 3, []), (29, .iload 2, []), (30, .invokevirtual 0, [27, 2, 0]), (33, .invokestatic 0, [112, 1]), (36, .ireturn, [1])]]
abbrev m_Sh_wordLength : Nat := 78
noncomputable def bk_Sh_wordLength : List (List AI) := [
  [(0, .aload 0, []), (1, .iload 1, []), (2, .invokevirtual 0, [120, 2, 5]), (5, .getfield 0, [0, 1]), (8, .iload 2, []), (9, .invokestatic 0, [111, 1]), (12, .invokevirtual 0, [2, 2, 4]), (15, .istore 3, []), (16, .iload 3, []), (17, .ifCond .ge 0, [1]), (20, .new 0, [11, 1])],
  [(30, .iload 3, []), (31, .ireturn, [])]]
abbrev m_Sh_wordBit : Nat := 79
noncomputable def bk_Sh_wordBit : List (List AI) := [
  [(0, .aload 0, []), (1, .iload 1, []), (2, .invokevirtual 0, [120, 2, 5]), (5, .astore 4, []), (7, .iload 2, []), (8, .invokestatic 0, [111, 1]), (11, .istore 5, []), (13, .iload 3, []), (14, .ifCond .lt 0, [1]), (17, .iload 3, []), (18, .aload 4, []), (20, .getfield 0, [0, 1]), (23, .iload 5, []), (25, .invokevirtual 0, [2, 2, 4]), (28, .if_icmp .lt 0, [2]), (31, .nop, [1])],
  [(31, .new 0, [11, 1])],
  [(41, .iconst 48, []), (43, .aload 4, []), (45, .iload 5, []), (47, .iload 3, []), (48, .invokevirtual 0, [25, 3, 0]), (51, .iadd, []), (52, .i2c, []), (53, .ireturn, [1])]]
abbrev m_Sh_longest : Nat := 80
noncomputable def bk_Sh_longest : List (List AI) := [
  [(0, .aload 0, []), (1, .iload 1, []), (2, .invokevirtual 0, [120, 2, 5]), (5, .invokevirtual 0, [19, 1, 0]), (8, .ireturn, [])]]
abbrev m_Sh_bits : Nat := 81
noncomputable def bk_Sh_bits : List (List AI) := [
  [(0, .aload 0, []), (1, .iload 1, []), (2, .invokevirtual 0, [120, 2, 5]), (5, .astore 2, []), (6, .aload 0, []), (7, .aload 2, []), (8, .invokevirtual 0, [123, 2, 5]), (11, .aload 0, []), (12, .aload 2, []), (13, .getfield 0, [0, 1]), (16, .invokevirtual 0, [128, 2, 5]), (19, .ireturn, [])]]
abbrev m_Sh_sum : Nat := 82
noncomputable def bk_Sh_sum : List (List AI) := [
  [(0, .aload 0, []), (1, .iload 1, []), (2, .invokevirtual 0, [120, 2, 5]), (5, .invokevirtual 0, [26, 1, 0]), (8, .lreturn, [])]]
abbrev m_Sh_lookup : Nat := 83
noncomputable def bk_Sh_lookup : List (List AI) := [
  [(0, .aload 0, []), (1, .iload 1, []), (2, .invokevirtual 0, [120, 2, 5]), (5, .astore 4, []), (7, .iload 2, []), (8, .iconst 1, []), (9, .if_icmp .lt 0, [1]), (12, .iload 2, []), (13, .iconst 8, []), (15, .if_icmp .le 0, [2]), (18, .nop, [1])],
  [(18, .new 0, [8, 1])],
  [(28, .iload 3, []), (29, .ifCond .lt 0, [3]), (32, .iload 3, []), (33, .iconst 1, []), (34, .iload 2, []), (35, .ishl, []), (36, .if_icmp .lt 0, [4]), (39, .nop, [3])],
  [(39, .new 0, [8, 1])],
  [(49, .aload 4, []), (51, .invokestatic 0, [121, 1]), (54, .aload 4, []), (56, .iload 3, []), (57, .iload 2, []), (58, .invokevirtual 0, [30, 3, 0]), (61, .istore 5, []), (63, .iload 5, []), (65, .ifCond .lt 0, [5]), (68, .iload 5, []), (70, .ireturn, [])],
  [(71, .aload 4, []), (73, .iload 3, []), (74, .iload 2, []), (75, .invokevirtual 0, [31, 3, 0]), (78, .ifCond .eq 0, [6]), (81, .iconst (-1), []), (82, .goto 0, [7])],
  [(85, .iconst (-2), []), (87, .nop, [7])],
  [(87, .ireturn, [])]]
abbrev m_Sh_leastBits : Nat := 84
noncomputable def bk_Sh_leastBits : List (List AI) := [
  [(0, .aload 0, []), (1, .getfield 0, [5, 5]), (4, .aload 0, []), (5, .getfield 0, [5, 1]), (8, .iconst 0, []), (9, .invokevirtual 0, [37, 3, 2]), (12, .aload 0, []), (13, .getfield 0, [5, 5]), (16, .invokevirtual 0, [45, 1, 2]), (19, .ireturn, [])]]
abbrev m_Sh_boundCost : Nat := 85
noncomputable def bk_Sh_boundCost : List (List AI) := [
  [(0, .iload 1, []), (1, .invokestatic 0, [116, 1]), (4, .aload 0, []), (5, .iload 1, []), (6, .invokevirtual 0, [117, 2, 5]), (9, .aload 0, []), (10, .iload 1, []), (11, .invokevirtual 0, [129, 2, 5]), (14, .aload 0, []), (15, .invokevirtual 0, [84, 1, 5]), (18, .isub, []), (19, .ireturn, [])]]
abbrev m_Sh_orderCost : Nat := 86
noncomputable def bk_Sh_orderCost : List (List AI) := [
  [(0, .aload 0, []), (1, .invokevirtual 0, [130, 1, 5]), (4, .aload 0, []), (5, .invokevirtual 0, [84, 1, 5]), (8, .isub, []), (9, .ireturn, [])]]
abbrev m_Sh_blockBits : Nat := 87
noncomputable def bk_Sh_blockBits : List (List AI) := [
  [(0, .iload 1, []), (1, .iconst 1, []), (2, .if_icmp .lt 0, [1]), (5, .iload 1, []), (6, .iconst 4, []), (7, .if_icmp .le 0, [2]), (10, .nop, [1])],
  [(10, .new 0, [8, 1])],
  [(21, .aload 0, []), (22, .getfield 0, [5, 12]), (25, .invokevirtual 0, [7, 1, 4]), (28, .aload 0, []), (29, .getfield 0, [5, 13]), (32, .invokevirtual 0, [7, 1, 4]), (35, .iconst 0, []), (36, .istore 2, []), (37, .nop, [3])],
  [(37, .iload 2, []), (38, .aload 0, []), (39, .getfield 0, [5, 0]), (42, .invokevirtual 0, [1, 1, 4]), (45, .if_icmp .ge 0, [4]), (48, .aload 0, []), (49, .aload 0, []), (50, .iload 2, []), (51, .iload 1, []), (52, .invokevirtual 0, [133, 3, 5]), (55, .invokevirtual 0, [134, 2, 5]), (58, .iload 2, []), (59, .iload 1, []), (60, .iadd, []), (61, .istore 2, []), (62, .goto 0, [3])],
  [(65, .aload 0, []), (66, .getfield 0, [5, 5]), (69, .aload 0, []), (70, .getfield 0, [5, 13]), (73, .iconst 0, []), (74, .invokevirtual 0, [37, 3, 2]), (77, .aload 0, []), (78, .getfield 0, [5, 5]), (81, .invokevirtual 0, [45, 1, 2]), (84, .ireturn, [])]]
abbrev m_Sh_fewestFor : Nat := 88
noncomputable def bk_Sh_fewestFor : List (List AI) := [
  [(0, .iload 1, []), (1, .invokestatic 0, [118, 1]), (4, .iconst 0, []), (5, .istore 2, []), (6, .iconst 0, []), (7, .istore 3, []), (8, .nop, [1])],
  [(8, .iload 3, []), (9, .iload 1, []), (10, .if_icmp .gt 0, [2]), (13, .iload 2, []), (14, .iload 3, []), (15, .invokestatic 0, [135, 1]), (18, .iadd, []), (19, .istore 2, []), (20, .iinc 3 1, []), (23, .goto 0, [1])],
  [(26, .iload 2, []), (27, .ireturn, [])]]
abbrev m_Sh_countFor : Nat := 89
noncomputable def bk_Sh_countFor : List (List AI) := [
  [(0, .iload 1, []), (1, .invokestatic 0, [118, 1]), (4, .iload 2, []), (5, .ifCond .lt 0, [1]), (8, .iload 2, []), (9, .iload 1, []), (10, .if_icmp .le 0, [2]), (13, .nop, [1])],
  [(13, .new 0, [10, 1])],
  [(24, .iload 2, []), (25, .invokestatic 0, [135, 1]), (28, .ireturn, [])]]
abbrev m_Sh_saved : Nat := 90
noncomputable def bk_Sh_saved : List (List AI) := [
  [(0, .iload 1, []), (1, .ifCond .lt 0, [1]), (4, .iload 1, []), (5, .aload 0, []), (6, .getfield 0, [5, 0]), (9, .invokevirtual 0, [1, 1, 4]), (12, .if_icmp .le 0, [2]), (15, .nop, [1])],
  [(15, .new 0, [10, 1])],
  [(26, .aload 0, []), (27, .iconst 0, []), (28, .aload 0, []), (29, .getfield 0, [5, 0]), (32, .invokevirtual 0, [1, 1, 4]), (35, .invokevirtual 0, [131, 3, 5]), (38, .aload 0, []), (39, .iload 1, []), (40, .invokevirtual 0, [132, 2, 5]), (43, .isub, []), (44, .ireturn, [])]]
abbrev m_Sh_bestCut : Nat := 91
noncomputable def bk_Sh_bestCut : List (List AI) := [
  [(0, .iconst 0, []), (1, .istore 1, []), (2, .aload 0, []), (3, .iconst 0, []), (4, .invokevirtual 0, [132, 2, 5]), (7, .istore 2, []), (8, .iconst 1, []), (9, .istore 3, []), (10, .nop, [1])],
  [(10, .iload 3, []), (11, .aload 0, []), (12, .getfield 0, [5, 0]), (15, .invokevirtual 0, [1, 1, 4]), (18, .if_icmp .gt 0, [3]), (21, .aload 0, []), (22, .iload 3, []), (23, .invokevirtual 0, [132, 2, 5]), (26, .istore 4, []), (28, .iload 4, []), (30, .iload 2, []), (31, .if_icmp .ge 0, [2]), (34, .iload 4, []), (36, .istore 2, []), (37, .iload 3, []), (38, .istore 1, []), (39, .nop, [2])],
  [(39, .iinc 3 1, []), (42, .goto 0, [1])],
  [(45, .iload 1, []), (46, .ireturn, [])]]
abbrev m_Sh_write : Nat := 92
noncomputable def bk_Sh_write : List (List AI) := [
  [(0, .aload 0, []), (1, .iload 1, []), (2, .invokevirtual 0, [120, 2, 5]), (5, .astore 2, []), (6, .aload 2, []), (7, .invokestatic 0, [121, 1]), (10, .aload 2, []), (11, .aload 0, []), (12, .getfield 0, [5, 0]), (15, .invokevirtual 0, [20, 2, 0]), (18, .ifCond .ne 0, [1]), (21, .new 0, [11, 1])],
  [(32, .aload 0, []), (33, .aload 2, []), (34, .aload 0, []), (35, .getfield 0, [5, 3]), (38, .invokevirtual 0, [138, 3, 5]), (41, .aload 0, []), (42, .aload 0, []), (43, .getfield 0, [5, 0]), (46, .invokevirtual 0, [1, 1, 4]), (49, .putfield 0, [5, 4, 0]), (52, .aload 0, []), (53, .getfield 0, [5, 3]), (56, .invokevirtual 0, [1, 1, 4]), (59, .ireturn, [])]]
abbrev m_Sh_read : Nat := 93
noncomputable def bk_Sh_read : List (List AI) := [
  [(0, .aload 0, []), (1, .iload 1, []), (2, .invokevirtual 0, [120, 2, 5]), (5, .astore 2, []), (6, .aload 2, []), (7, .invokestatic 0, [121, 1]), (10, .aload 2, []), (11, .aload 0, []), (12, .getfield 0, [5, 3]), (15, .aload 0, []), (16, .getfield 0, [5, 4]), (19, .aload 0, []), (20, .getfield 0, [5, 14]), (23, .invokestatic 0, [139, 4]), (26, .aload 0, []), (27, .getfield 0, [5, 0]), (30, .aload 0, []), (31, .getfield 0, [5, 14]), (34, .invokevirtual 0, [9, 2, 4]), (37, .aload 0, []), (38, .getfield 0, [5, 0]), (41, .invokevirtual 0, [1, 1, 4]), (44, .ireturn, [])]]
abbrev m_Sh_writeGrowing : Nat := 94
noncomputable def bk_Sh_writeGrowing : List (List AI) := [
  [(0, .aload 0, []), (1, .getfield 0, [5, 7]), (4, .aload 0, []), (5, .getfield 0, [5, 0]), (8, .aload 0, []), (9, .getfield 0, [5, 3]), (12, .invokevirtual 0, [52, 3, 3]), (15, .aload 0, []), (16, .aload 0, []), (17, .getfield 0, [5, 0]), (20, .invokevirtual 0, [1, 1, 4]), (23, .putfield 0, [5, 4, 0]), (26, .aload 0, []), (27, .getfield 0, [5, 3]), (30, .invokevirtual 0, [1, 1, 4]), (33, .ireturn, [])]]
abbrev m_Sh_readGrowing : Nat := 95
noncomputable def bk_Sh_readGrowing : List (List AI) := [
  [(0, .aload 0, []), (1, .getfield 0, [5, 7]), (4, .aload 0, []), (5, .getfield 0, [5, 3]), (8, .aload 0, []), (9, .getfield 0, [5, 4]), (12, .aload 0, []), (13, .getfield 0, [5, 14]), (16, .invokevirtual 0, [53, 4, 3]), (19, .aload 0, []), (20, .getfield 0, [5, 0]), (23, .aload 0, []), (24, .getfield 0, [5, 14]), (27, .invokevirtual 0, [9, 2, 4]), (30, .aload 0, []), (31, .getfield 0, [5, 0]), (34, .invokevirtual 0, [1, 1, 4]), (37, .ireturn, [])]]
abbrev m_Sh_streamBits : Nat := 96
noncomputable def bk_Sh_streamBits : List (List AI) := [
  [(0, .aload 0, []), (1, .getfield 0, [5, 3]), (4, .invokevirtual 0, [1, 1, 4]), (7, .ireturn, [])]]
abbrev m_Sh_written : Nat := 97
noncomputable def bk_Sh_written : List (List AI) := [
  [(0, .aload 0, []), (1, .getfield 0, [5, 4]), (4, .ireturn, [])]]
abbrev m_Sh_bitAt : Nat := 98
noncomputable def bk_Sh_bitAt : List (List AI) := [
  [(0, .aload 0, []), (1, .iload 1, []), (2, .invokevirtual 0, [119, 2, 5]), (5, .aload 0, []), (6, .getfield 0, [5, 3]), (9, .iload 1, []), (10, .invokevirtual 0, [2, 2, 4]), (13, .ireturn, [])]]
abbrev m_Sh_turn : Nat := 99
noncomputable def bk_Sh_turn : List (List AI) := [
  [(0, .aload 0, []), (1, .iload 1, []), (2, .invokevirtual 0, [119, 2, 5]), (5, .aload 0, []), (6, .getfield 0, [5, 3]), (9, .iload 1, []), (10, .iconst 1, []), (11, .aload 0, []), (12, .getfield 0, [5, 3]), (15, .iload 1, []), (16, .invokevirtual 0, [2, 2, 4]), (19, .isub, []), (20, .invokevirtual 0, [3, 3, 4]), (23, .aload 0, []), (24, .getfield 0, [5, 3]), (27, .iload 1, []), (28, .invokevirtual 0, [2, 2, 4]), (31, .ireturn, [])]]
abbrev m_Sh_byteAt : Nat := 100
noncomputable def bk_Sh_byteAt : List (List AI) := [
  [(0, .iload 1, []), (1, .ifCond .lt 0, [1]), (4, .iload 1, []), (5, .aload 0, []), (6, .getfield 0, [5, 3]), (9, .invokevirtual 0, [1, 1, 4]), (12, .iconst 8, []), (14, .iadd, []), (15, .iconst 1, []), (16, .isub, []), (17, .iconst 8, []), (19, .idiv, []), (20, .if_icmp .lt 0, [2]), (23, .nop, [1])],
  [(23, .new 0, [10, 1])],
  [(34, .aload 0, []), (35, .getfield 0, [5, 3]), (38, .iload 1, []), (39, .iconst 8, []), (41, .imul, []), (42, .iconst 8, []), (44, .invokestatic 0, [140, 3]), (47, .ireturn, [])]]
abbrev m_Sh_inStep : Nat := 101
noncomputable def bk_Sh_inStep : List (List AI) := [
  [(0, .aload 0, []), (1, .iload 1, []), (2, .invokevirtual 0, [120, 2, 5]), (5, .astore 3, []), (6, .aload 0, []), (7, .iload 2, []), (8, .invokevirtual 0, [119, 2, 5]), (11, .aload 3, []), (12, .invokestatic 0, [121, 1]), (15, .aload 3, []), (16, .invokestatic 0, [122, 1]), (19, .aload 0, []), (20, .aload 3, []), (21, .aload 0, []), (22, .aload 3, []), (23, .iconst 0, []), (24, .iload 2, []), (25, .invokevirtual 0, [142, 4, 5]), (28, .iload 2, []), (29, .invokevirtual 0, [143, 4, 5]), (32, .ireturn, [])]]
abbrev m_Sh_lost : Nat := 102
noncomputable def bk_Sh_lost : List (List AI) := [
  [(0, .aload 0, []), (1, .iload 1, []), (2, .invokevirtual 0, [120, 2, 5]), (5, .astore 3, []), (6, .aload 0, []), (7, .iload 2, []), (8, .invokevirtual 0, [119, 2, 5]), (11, .aload 3, []), (12, .invokestatic 0, [121, 1]), (15, .aload 3, []), (16, .invokestatic 0, [122, 1]), (19, .iconst 0, []), (20, .istore 4, []), (22, .iconst 0, []), (23, .istore 5, []), (25, .iload 2, []), (26, .istore 6, []), (28, .nop, [1])],
  [(28, .iload 6, []), (30, .iload 2, []), (31, .iconst 32, []), (33, .iadd, []), (34, .if_icmp .ge 0, [3]), (37, .iload 6, []), (39, .aload 0, []), (40, .getfield 0, [5, 3]), (43, .invokevirtual 0, [1, 1, 4]), (46, .if_icmp .ge 0, [3]), (49, .aload 0, []), (50, .aload 3, []), (51, .iload 5, []), (53, .iload 6, []), (55, .invokevirtual 0, [142, 4, 5]), (58, .istore 5, []), (60, .aload 0, []), (61, .aload 3, []), (62, .iload 5, []), (64, .iload 6, []), (66, .invokevirtual 0, [143, 4, 5]), (69, .ifCond .ge 0, [2]), (72, .iinc 4 1, []), (75, .nop, [2])],
  [(75, .iinc 6 1, []), (78, .goto 0, [1])],
  [(81, .iload 4, []), (83, .ireturn, [])]]
abbrev m_Sh_moves : Nat := 103
noncomputable def bk_Sh_moves : List (List AI) := [
  [(0, .aload 0, []), (1, .aload 0, []), (2, .getfield 0, [5, 0]), (5, .aload 0, []), (6, .getfield 0, [5, 14]), (9, .invokevirtual 0, [146, 3, 5]), (12, .aload 0, []), (13, .getfield 0, [5, 0]), (16, .aload 0, []), (17, .getfield 0, [5, 14]), (20, .invokevirtual 0, [9, 2, 4]), (23, .aload 0, []), (24, .getfield 0, [5, 0]), (27, .iconst 0, []), (28, .invokevirtual 0, [12, 2, 4]), (31, .ireturn, [])]]
abbrev m_Sh_unmoves : Nat := 104
noncomputable def bk_Sh_unmoves : List (List AI) := [
  [(0, .aload 0, []), (1, .aload 0, []), (2, .getfield 0, [5, 0]), (5, .aload 0, []), (6, .getfield 0, [5, 14]), (9, .invokevirtual 0, [147, 3, 5]), (12, .aload 0, []), (13, .getfield 0, [5, 0]), (16, .aload 0, []), (17, .getfield 0, [5, 14]), (20, .invokevirtual 0, [9, 2, 4]), (23, .iconst 0, []), (24, .istore 1, []), (25, .iconst 0, []), (26, .istore 2, []), (27, .nop, [1])],
  [(27, .iload 2, []), (28, .aload 0, []), (29, .getfield 0, [5, 0]), (32, .invokevirtual 0, [1, 1, 4]), (35, .if_icmp .ge 0, [4]), (38, .iload 2, []), (39, .ifCond .eq 0, [2]), (42, .aload 0, []), (43, .getfield 0, [5, 0]), (46, .iload 2, []), (47, .invokevirtual 0, [2, 2, 4]), (50, .aload 0, []), (51, .getfield 0, [5, 0]), (54, .iload 2, []), (55, .iconst 1, []), (56, .isub, []), (57, .invokevirtual 0, [2, 2, 4]), (60, .if_icmp .eq 0, [3]), (63, .nop, [2])],
  [(63, .iinc 1 1, []), (66, .nop, [3])],
  [(66, .iinc 2 1, []), (69, .goto 0, [1])],
  [(72, .iload 1, []), (73, .ireturn, [])]]
abbrev m_Sh_runs : Nat := 105
noncomputable def bk_Sh_runs : List (List AI) := [
  [(0, .aload 0, []), (1, .aload 0, []), (2, .getfield 0, [5, 14]), (5, .invokevirtual 0, [148, 2, 5]), (8, .aload 0, []), (9, .getfield 0, [5, 14]), (12, .invokevirtual 0, [1, 1, 4]), (15, .iconst 120, []), (17, .if_icmp .le 0, [1]), (20, .new 0, [9, 1])],
  [(31, .aload 0, []), (32, .getfield 0, [5, 0]), (35, .aload 0, []), (36, .getfield 0, [5, 14]), (39, .invokevirtual 0, [9, 2, 4]), (42, .aload 0, []), (43, .getfield 0, [5, 0]), (46, .invokevirtual 0, [1, 1, 4]), (49, .ireturn, [])]]
abbrev m_Sh_unruns : Nat := 106
noncomputable def bk_Sh_unruns : List (List AI) := [
  [(0, .aload 0, []), (1, .getfield 0, [5, 0]), (4, .invokevirtual 0, [1, 1, 4]), (7, .iconst 2, []), (8, .irem, []), (9, .ifCond .eq 0, [1]), (12, .new 0, [12, 1])],
  [(23, .iconst 0, []), (24, .istore 1, []), (25, .iconst 1, []), (26, .istore 2, []), (27, .nop, [2])],
  [(27, .iload 2, []), (28, .aload 0, []), (29, .getfield 0, [5, 0]), (32, .invokevirtual 0, [1, 1, 4]), (35, .if_icmp .ge 0, [3]), (38, .iload 1, []), (39, .aload 0, []), (40, .getfield 0, [5, 0]), (43, .iload 2, []), (44, .invokevirtual 0, [2, 2, 4]), (47, .iconst 1, []), (48, .iadd, []), (49, .iadd, []), (50, .istore 1, []), (51, .iinc 2 2, []), (54, .goto 0, [2])],
  [(57, .iload 1, []), (58, .iconst 120, []), (60, .if_icmp .le 0, [4]), (63, .new 0, [9, 1])],
  [(74, .aload 0, []), (75, .aload 0, []), (76, .getfield 0, [5, 14]), (79, .invokevirtual 0, [149, 2, 5]), (82, .aload 0, []), (83, .getfield 0, [5, 0]), (86, .aload 0, []), (87, .getfield 0, [5, 14]), (90, .invokevirtual 0, [9, 2, 4]), (93, .aload 0, []), (94, .getfield 0, [5, 0]), (97, .invokevirtual 0, [1, 1, 4]), (100, .ireturn, [])]]
abbrev m_Sh_meanLength : Nat := 107
noncomputable def bk_Sh_meanLength : List (List AI) := [
  [(0, .aload 0, []), (1, .iload 1, []), (2, .invokevirtual 0, [120, 2, 5]), (5, .astore 2, []), (6, .aload 0, []), (7, .aload 2, []), (8, .invokevirtual 0, [123, 2, 5]), (11, .aload 0, []), (12, .getfield 0, [5, 1]), (15, .invokevirtual 0, [13, 1, 4]), (18, .istore 3, []), (19, .iload 3, []), (20, .ifCond .ne 0, [1]), (23, .new 0, [13, 1])],
  [(34, .aload 0, []), (35, .aload 2, []), (36, .getfield 0, [0, 1]), (39, .invokevirtual 0, [128, 2, 5]), (42, .i2d, []), (43, .iload 3, []), (44, .i2d, []), (45, .ddiv, []), (46, .dreturn, [])]]
abbrev m_Sh_fullShare : Nat := 108
noncomputable def bk_Sh_fullShare : List (List AI) := [
  [(0, .iconst 0, []), (1, .istore 1, []), (2, .iconst 0, []), (3, .istore 2, []), (4, .iconst 0, []), (5, .istore 3, []), (6, .nop, [1])],
  [(6, .iload 3, []), (7, .aload 0, []), (8, .getfield 0, [5, 2]), (11, .invokevirtual 0, [249, 1, 7]), (16, .if_icmp .ge 0, [5]), (19, .aload 0, []), (20, .getfield 0, [5, 2]), (23, .iload 3, []), (24, .invokevirtual 0, [251, 2, 7]), (29, .checkcast 0, [0]), (32, .astore 4, []), (34, .aload 4, []), (36, .invokevirtual 0, [17, 1, 0]), (39, .ifCond .ne 0, [4]), (42, .iinc 2 1, []), (45, .iload 1, []), (46, .aload 4, []), (48, .invokevirtual 0, [26, 1, 0]), (51, .ldc2_w 0, [33554432, 0]), (54, .lcmp, []), (55, .ifCond .ne 0, [2]), (58, .iconst 1, []), (59, .goto 0, [3])],
  [(62, .iconst 0, []), (63, .nop, [3])],
  [(63, .iadd, []), (64, .istore 1, []), (65, .nop, [4])],
  [(65, .iinc 3 1, []), (68, .goto 0, [1])],
  [(71, .iload 2, []), (72, .ifCond .ne 0, [6]), (75, .new 0, [13, 1])],
  [(86, .iload 1, []), (87, .i2f, []), (88, .iload 2, []), (89, .i2f, []), (90, .fdiv, []), (91, .freturn, [])]]
abbrev m_Sh_checksum : Nat := 109
noncomputable def bk_Sh_checksum : List (List AI) := [
  [(0, .aload 0, []), (1, .getfield 0, [5, 1]), (4, .ldc2_w 0, [7, 0]), (7, .invokevirtual 0, [14, 2, 4]), (10, .lstore 1, []), (11, .aload 0, []), (12, .getfield 0, [5, 0]), (15, .lload 1, []), (16, .invokevirtual 0, [14, 2, 4]), (19, .lstore 1, []), (20, .iconst 0, []), (21, .istore 3, []), (22, .nop, [1])],
  [(22, .iload 3, []), (23, .aload 0, []), (24, .getfield 0, [5, 2]), (27, .invokevirtual 0, [249, 1, 7]), (32, .if_icmp .ge 0, [2]), (35, .aload 0, []), (36, .getfield 0, [5, 2]), (39, .iload 3, []), (40, .invokevirtual 0, [251, 2, 7]), (45, .checkcast 0, [0]), (48, .getfield 0, [0, 1]), (51, .lload 1, []), (52, .invokevirtual 0, [14, 2, 4]), (55, .lstore 1, []), (56, .iinc 3 1, []), (59, .goto 0, [1])],
  [(62, .aload 0, []), (63, .getfield 0, [5, 3]), (66, .lload 1, []), (67, .invokevirtual 0, [14, 2, 4]), (70, .lreturn, [])]]
abbrev m_Sh_isSound : Nat := 110
noncomputable def bk_Sh_isSound : List (List AI) := [
  [(0, .iconst 0, []), (1, .istore 1, []), (2, .nop, [1])],
  [(2, .iload 1, []), (3, .aload 0, []), (4, .getfield 0, [5, 2]), (7, .invokevirtual 0, [249, 1, 7]), (12, .if_icmp .ge 0, [3]), (15, .aload 0, []), (16, .aload 0, []), (17, .getfield 0, [5, 2]), (20, .iload 1, []), (21, .invokevirtual 0, [251, 2, 7]), (26, .checkcast 0, [0]), (29, .invokevirtual 0, [150, 2, 5]), (32, .ifCond .ne 0, [2]), (35, .iconst 0, []), (36, .ireturn, [2])],
  [(37, .iinc 1 1, []), (40, .goto 0, [1])],
  [(43, .aload 0, []), (44, .invokevirtual 0, [152, 1, 5]), (47, .ifCond .eq 0, [4]), (50, .aload 0, []), (51, .invokevirtual 0, [153, 1, 5]), (54, .ifCond .eq 0, [4]), (57, .aload 0, []), (58, .invokevirtual 0, [154, 1, 5]), (61, .ifCond .eq 0, [4]), (64, .iconst 1, []), (65, .goto 0, [5])],
  [(68, .iconst 0, []), (69, .nop, [5])],
  [(69, .ireturn, [2])]]
abbrev m_Sh_numberOf : Nat := 111
noncomputable def bk_Sh_numberOf : List (List AI) := [
  [(0, .iload 0, []), (1, .iconst 97, []), (3, .if_icmp .lt 0, [1]), (6, .iload 0, []), (7, .iconst 122, []), (9, .if_icmp .le 0, [2]), (12, .nop, [1])],
  [(12, .new 0, [8, 1])],
  [(23, .iload 0, []), (24, .iconst 97, []), (26, .isub, []), (27, .ireturn, [])]]
abbrev m_Sh_signOf : Nat := 112
noncomputable def bk_Sh_signOf : List (List AI) := [
  [(0, .iconst 97, []), (2, .iload 0, []), (3, .iadd, []), (4, .i2c, []), (5, .ireturn, [1])]]
abbrev m_Sh_needRoomFor : Nat := 113
noncomputable def bk_Sh_needRoomFor : List (List AI) := [
  [(0, .aload 0, []), (1, .getfield 0, [5, 0]), (4, .invokevirtual 0, [1, 1, 4]), (7, .iload 1, []), (8, .iadd, []), (9, .iconst 120, []), (11, .if_icmp .le 0, [1]), (14, .new 0, [9, 1])],
  [(25, .return_, [])]]
abbrev m_Sh_needCounts : Nat := 114
noncomputable def bk_Sh_needCounts : List (List AI) := [
  [(0, .aload 0, []), (1, .invokevirtual 0, [124, 1, 5]), (4, .ifCond .ne 0, [1]), (7, .new 0, [11, 1])],
  [(18, .return_, [])]]
abbrev m_Sh_needRoomForCode : Nat := 115
noncomputable def bk_Sh_needRoomForCode : List (List AI) := [
  [(0, .aload 0, []), (1, .getfield 0, [5, 2]), (4, .invokevirtual 0, [249, 1, 7]), (9, .iconst 12, []), (11, .if_icmp .lt 0, [1]), (14, .new 0, [9, 1])],
  [(25, .return_, [])]]
abbrev m_Sh_needBound : Nat := 116
noncomputable def bk_Sh_needBound : List (List AI) := [
  [(0, .iload 0, []), (1, .iconst 1, []), (2, .if_icmp .lt 0, [1]), (5, .iload 0, []), (6, .iconst 25, []), (8, .if_icmp .le 0, [2]), (11, .nop, [1])],
  [(11, .new 0, [8, 1])],
  [(22, .return_, [])]]
abbrev m_Sh_needWideBound : Nat := 117
noncomputable def bk_Sh_needWideBound : List (List AI) := [
  [(0, .aload 0, []), (1, .invokevirtual 0, [124, 1, 5]), (4, .iconst 1, []), (5, .iload 1, []), (6, .ishl, []), (7, .if_icmp .le 0, [1]), (10, .new 0, [12, 1])],
  [(21, .return_, [])]]
abbrev m_Sh_needWordBits : Nat := 118
noncomputable def bk_Sh_needWordBits : List (List AI) := [
  [(0, .iload 0, []), (1, .iconst 1, []), (2, .if_icmp .lt 0, [1]), (5, .iload 0, []), (6, .iconst 25, []), (8, .if_icmp .le 0, [2]), (11, .nop, [1])],
  [(11, .new 0, [8, 1])],
  [(22, .return_, [])]]
abbrev m_Sh_needBit : Nat := 119
noncomputable def bk_Sh_needBit : List (List AI) := [
  [(0, .iload 1, []), (1, .ifCond .lt 0, [1]), (4, .iload 1, []), (5, .aload 0, []), (6, .getfield 0, [5, 3]), (9, .invokevirtual 0, [1, 1, 4]), (12, .if_icmp .lt 0, [2]), (15, .nop, [1])],
  [(15, .new 0, [10, 1])],
  [(26, .return_, [])]]
abbrev m_Sh_codeAt : Nat := 120
noncomputable def bk_Sh_codeAt : List (List AI) := [
  [(0, .iload 1, []), (1, .ifCond .lt 0, [1]), (4, .iload 1, []), (5, .aload 0, []), (6, .getfield 0, [5, 2]), (9, .invokevirtual 0, [249, 1, 7]), (14, .if_icmp .lt 0, [2]), (17, .nop, [1])],
  [(17, .new 0, [10, 1])],
  [(28, .aload 0, []), (29, .getfield 0, [5, 2]), (32, .iload 1, []), (33, .invokevirtual 0, [251, 2, 7]), (38, .checkcast 0, [0]), (41, .areturn, [])]]
abbrev m_Sh_refuseTriples : Nat := 121
noncomputable def bk_Sh_refuseTriples : List (List AI) := [
  [(0, .aload 0, []), (1, .invokevirtual 0, [17, 1, 0]), (4, .ifCond .eq 0, [1]), (7, .new 0, [12, 1])],
  [(18, .return_, [])]]
abbrev m_Sh_refuseEmptyWord : Nat := 122
noncomputable def bk_Sh_refuseEmptyWord : List (List AI) := [
  [(0, .aload 0, []), (1, .getfield 0, [0, 1]), (4, .iconst 0, []), (5, .invokevirtual 0, [12, 2, 4]), (8, .ifCond .le 0, [1]), (11, .new 0, [12, 1])],
  [(22, .return_, [])]]
abbrev m_Sh_needWordsForCounts : Nat := 123
noncomputable def bk_Sh_needWordsForCounts : List (List AI) := [
  [(0, .iconst 0, []), (1, .istore 2, []), (2, .nop, [1])],
  [(2, .iload 2, []), (3, .iconst 26, []), (5, .if_icmp .ge 0, [3]), (8, .aload 0, []), (9, .getfield 0, [5, 1]), (12, .iload 2, []), (13, .invokevirtual 0, [2, 2, 4]), (16, .ifCond .le 0, [2]), (19, .aload 1, []), (20, .getfield 0, [0, 1]), (23, .iload 2, []), (24, .invokevirtual 0, [2, 2, 4]), (27, .ifCond .ge 0, [2]), (30, .new 0, [11, 1])],
  [(41, .iinc 2 1, []), (44, .goto 0, [1])],
  [(47, .return_, [])]]
abbrev m_Sh_countedSigns : Nat := 124
noncomputable def bk_Sh_countedSigns : List (List AI) := [
  [(0, .iconst 26, []), (2, .aload 0, []), (3, .getfield 0, [5, 1]), (6, .iconst 0, []), (7, .invokevirtual 0, [12, 2, 4]), (10, .isub, []), (11, .ireturn, [])]]
abbrev m_Sh_countPart : Nat := 125
noncomputable def bk_Sh_countPart : List (List AI) := [
  [(0, .aload 3, []), (1, .iconst 26, []), (3, .iconst 0, []), (4, .invokevirtual 0, [8, 3, 4]), (7, .iload 1, []), (8, .istore 4, []), (10, .nop, [1])],
  [(10, .iload 4, []), (12, .iload 2, []), (13, .if_icmp .ge 0, [2]), (16, .aload 0, []), (17, .getfield 0, [5, 0]), (20, .iload 4, []), (22, .invokevirtual 0, [2, 2, 4]), (25, .istore 5, []), (27, .aload 3, []), (28, .iload 5, []), (30, .aload 3, []), (31, .iload 5, []), (33, .invokevirtual 0, [2, 2, 4]), (36, .iconst 1, []), (37, .iadd, []), (38, .invokevirtual 0, [3, 3, 4]), (41, .iinc 4 1, []), (44, .goto 0, [1])],
  [(47, .return_, [])]]
abbrev m_Sh_leastLengths : Nat := 126
noncomputable def bk_Sh_leastLengths : List (List AI) := [
  [(0, .aload 0, []), (1, .getfield 0, [5, 5]), (4, .aload 0, []), (5, .getfield 0, [5, 1]), (8, .iload 1, []), (9, .invokevirtual 0, [37, 3, 2]), (12, .aload 0, []), (13, .getfield 0, [5, 5]), (16, .aload 0, []), (17, .getfield 0, [5, 10]), (20, .invokevirtual 0, [44, 2, 2]), (23, .return_, [])]]
abbrev m_Sh_orderedLengths : Nat := 127
noncomputable def bk_Sh_orderedLengths : List (List AI) := [
  [(0, .aload 0, []), (1, .getfield 0, [5, 5]), (4, .aload 0, []), (5, .getfield 0, [5, 1]), (8, .iload 1, []), (9, .invokevirtual 0, [37, 3, 2]), (12, .aload 0, []), (13, .getfield 0, [5, 5]), (16, .aload 0, []), (17, .getfield 0, [5, 10]), (20, .invokevirtual 0, [44, 2, 2]), (23, .return_, [])]]
abbrev m_Sh_costOf : Nat := 128
noncomputable def bk_Sh_costOf : List (List AI) := [
  [(0, .iconst 0, []), (1, .istore 2, []), (2, .iconst 0, []), (3, .istore 3, []), (4, .nop, [1])],
  [(4, .iload 3, []), (5, .iconst 26, []), (7, .if_icmp .ge 0, [2]), (10, .iload 2, []), (11, .aload 0, []), (12, .getfield 0, [5, 1]), (15, .iload 3, []), (16, .invokevirtual 0, [2, 2, 4]), (19, .aload 1, []), (20, .iload 3, []), (21, .invokevirtual 0, [2, 2, 4]), (24, .imul, []), (25, .iadd, []), (26, .istore 2, []), (27, .iinc 3 1, []), (30, .goto 0, [1])],
  [(33, .iload 2, []), (34, .ireturn, [])]]
abbrev m_Sh_boundedBits : Nat := 129
noncomputable def bk_Sh_boundedBits : List (List AI) := [
  [(0, .aload 0, []), (1, .getfield 0, [5, 6]), (4, .aload 0, []), (5, .getfield 0, [5, 1]), (8, .iload 1, []), (9, .aload 0, []), (10, .getfield 0, [5, 10]), (13, .invokevirtual 0, [47, 4, 1]), (16, .aload 0, []), (17, .aload 0, []), (18, .getfield 0, [5, 10]), (21, .invokevirtual 0, [128, 2, 5]), (24, .ireturn, [])]]
abbrev m_Sh_orderedBits : Nat := 130
noncomputable def bk_Sh_orderedBits : List (List AI) := [
  [(0, .aload 0, []), (1, .getfield 0, [5, 5]), (4, .aload 0, []), (5, .getfield 0, [5, 1]), (8, .invokevirtual 0, [40, 2, 2]), (11, .aload 0, []), (12, .getfield 0, [5, 5]), (15, .invokevirtual 0, [45, 1, 2]), (18, .ireturn, [])]]
abbrev m_Sh_partBits : Nat := 131
noncomputable def bk_Sh_partBits : List (List AI) := [
  [(0, .aload 0, []), (1, .iload 1, []), (2, .iload 2, []), (3, .aload 0, []), (4, .getfield 0, [5, 11]), (7, .invokevirtual 0, [125, 4, 5]), (10, .aload 0, []), (11, .getfield 0, [5, 5]), (14, .aload 0, []), (15, .getfield 0, [5, 11]), (18, .iconst 0, []), (19, .invokevirtual 0, [37, 3, 2]), (22, .aload 0, []), (23, .getfield 0, [5, 5]), (26, .invokevirtual 0, [45, 1, 2]), (29, .iconst 130, []), (32, .iadd, []), (33, .ireturn, [])]]
abbrev m_Sh_cutBits : Nat := 132
noncomputable def bk_Sh_cutBits : List (List AI) := [
  [(0, .aload 0, []), (1, .iconst 0, []), (2, .iload 1, []), (3, .invokevirtual 0, [131, 3, 5]), (6, .aload 0, []), (7, .iload 1, []), (8, .aload 0, []), (9, .getfield 0, [5, 0]), (12, .invokevirtual 0, [1, 1, 4]), (15, .invokevirtual 0, [131, 3, 5]), (18, .iadd, []), (19, .ireturn, [])]]
abbrev m_Sh_blockFrom : Nat := 133
noncomputable def bk_Sh_blockFrom : List (List AI) := [
  [(0, .iconst 0, []), (1, .istore 3, []), (2, .iload 1, []), (3, .istore 4, []), (5, .nop, [1])],
  [(5, .iload 4, []), (7, .iload 1, []), (8, .iload 2, []), (9, .iadd, []), (10, .if_icmp .ge 0, [2]), (13, .iload 4, []), (15, .aload 0, []), (16, .getfield 0, [5, 0]), (19, .invokevirtual 0, [1, 1, 4]), (22, .if_icmp .ge 0, [2]), (25, .iload 3, []), (26, .iconst 27, []), (28, .imul, []), (29, .aload 0, []), (30, .getfield 0, [5, 0]), (33, .iload 4, []), (35, .invokevirtual 0, [2, 2, 4]), (38, .iadd, []), (39, .iconst 1, []), (40, .iadd, []), (41, .istore 3, []), (42, .iinc 4 1, []), (45, .goto 0, [1])],
  [(48, .iload 3, []), (49, .ireturn, [])]]
abbrev m_Sh_countBlock : Nat := 134
noncomputable def bk_Sh_countBlock : List (List AI) := [
  [(0, .aload 0, []), (1, .getfield 0, [5, 12]), (4, .iload 1, []), (5, .invokevirtual 0, [11, 2, 4]), (8, .istore 2, []), (9, .iload 2, []), (10, .ifCond .ge 0, [1]), (13, .aload 0, []), (14, .getfield 0, [5, 12]), (17, .iload 1, []), (18, .invokevirtual 0, [4, 2, 4]), (21, .aload 0, []), (22, .getfield 0, [5, 13]), (25, .iconst 1, []), (26, .invokevirtual 0, [4, 2, 4]), (29, .goto 0, [2])],
  [(32, .aload 0, []), (33, .getfield 0, [5, 13]), (36, .iload 2, []), (37, .aload 0, []), (38, .getfield 0, [5, 13]), (41, .iload 2, []), (42, .invokevirtual 0, [2, 2, 4]), (45, .iconst 1, []), (46, .iadd, []), (47, .invokevirtual 0, [3, 3, 4]), (50, .nop, [2])],
  [(50, .return_, [])]]
abbrev m_Sh_steepCount : Nat := 135
noncomputable def bk_Sh_steepCount : List (List AI) := [
  [(0, .iconst 1, []), (1, .istore 1, []), (2, .iconst 1, []), (3, .istore 2, []), (4, .iconst 3, []), (5, .istore 3, []), (6, .nop, [1])],
  [(6, .iload 3, []), (7, .iload 0, []), (8, .if_icmp .gt 0, [2]), (11, .iload 1, []), (12, .iload 2, []), (13, .iadd, []), (14, .istore 4, []), (16, .iload 2, []), (17, .istore 1, []), (18, .iload 4, []), (20, .istore 2, []), (21, .iinc 3 1, []), (24, .goto 0, [1])],
  [(27, .iload 2, []), (28, .ireturn, [])]]
abbrev m_Sh_keepByLengths : Nat := 136
noncomputable def bk_Sh_keepByLengths : List (List AI) := [
  [(0, .new 0, [0, 0]), (3, .dup, []), (4, .iload 1, []), (5, .iconst 26, []), (7, .invokespecial 0, [16, 3]), (10, .astore 2, []), (11, .aload 2, []), (12, .getfield 0, [0, 1]), (15, .aload 0, []), (16, .getfield 0, [5, 10]), (19, .invokevirtual 0, [9, 2, 4]), (22, .aload 2, []), (23, .invokevirtual 0, [23, 1, 0]), (26, .aload 0, []), (27, .aload 2, []), (28, .invokevirtual 0, [137, 2, 5]), (31, .ireturn, [])]]
abbrev m_Sh_keep : Nat := 137
noncomputable def bk_Sh_keep : List (List AI) := [
  [(0, .aload 0, []), (1, .getfield 0, [5, 2]), (4, .aload 1, []), (5, .invokevirtual 0, [253, 2, 7]), (10, .pop, []), (11, .aload 0, []), (12, .getfield 0, [5, 2]), (15, .invokevirtual 0, [249, 1, 7]), (20, .iconst 1, []), (21, .isub, []), (22, .ireturn, [])]]
abbrev m_Sh_layText : Nat := 138
noncomputable def bk_Sh_layText : List (List AI) := [
  [(0, .aload 2, []), (1, .invokevirtual 0, [7, 1, 4]), (4, .iconst 0, []), (5, .istore 3, []), (6, .nop, [1])],
  [(6, .iload 3, []), (7, .aload 0, []), (8, .getfield 0, [5, 0]), (11, .invokevirtual 0, [1, 1, 4]), (14, .if_icmp .ge 0, [2]), (17, .aload 1, []), (18, .aload 0, []), (19, .getfield 0, [5, 0]), (22, .iload 3, []), (23, .invokevirtual 0, [2, 2, 4]), (26, .aload 2, []), (27, .invokevirtual 0, [32, 3, 0]), (30, .iinc 3 1, []), (33, .goto 0, [1])],
  [(36, .return_, [])]]
abbrev m_Sh_gatherText : Nat := 139
noncomputable def bk_Sh_gatherText : List (List AI) := [
  [(0, .aload 3, []), (1, .invokevirtual 0, [7, 1, 4]), (4, .iconst 0, []), (5, .istore 4, []), (7, .iconst 0, []), (8, .istore 5, []), (10, .nop, [1])],
  [(10, .iload 5, []), (12, .iload 2, []), (13, .if_icmp .ge 0, [3]), (16, .aload 0, []), (17, .aload 1, []), (18, .iload 4, []), (20, .iconst (-1), []), (21, .invokevirtual 0, [33, 4, 0]), (24, .istore 6, []), (26, .iload 6, []), (28, .ifCond .ge 0, [2]), (31, .return_, [])],
  [(32, .aload 3, []), (33, .iload 6, []), (35, .invokevirtual 0, [4, 2, 4]), (38, .iload 4, []), (40, .aload 0, []), (41, .getfield 0, [0, 1]), (44, .iload 6, []), (46, .invokevirtual 0, [2, 2, 4]), (49, .iadd, []), (50, .istore 4, []), (52, .iinc 5 1, []), (55, .goto 0, [1])],
  [(58, .return_, [])]]
abbrev m_Sh_numberFrom : Nat := 140
noncomputable def bk_Sh_numberFrom : List (List AI) := [
  [(0, .iconst 0, []), (1, .istore 3, []), (2, .iconst 0, []), (3, .istore 4, []), (5, .nop, [1])],
  [(5, .iload 4, []), (7, .iload 2, []), (8, .if_icmp .ge 0, [2]), (11, .iconst 2, []), (12, .iload 3, []), (13, .imul, []), (14, .aload 0, []), (15, .iload 1, []), (16, .iload 4, []), (18, .iadd, []), (19, .invokevirtual 0, [2, 2, 4]), (22, .iadd, []), (23, .istore 3, []), (24, .iinc 4 1, []), (27, .goto 0, [1])],
  [(30, .iload 3, []), (31, .ireturn, [])]]
abbrev m_Sh_nextEnd : Nat := 141
noncomputable def bk_Sh_nextEnd : List (List AI) := [
  [(0, .aload 1, []), (1, .aload 0, []), (2, .getfield 0, [5, 3]), (5, .iload 2, []), (6, .iload 3, []), (7, .invokevirtual 0, [33, 4, 0]), (10, .istore 4, []), (12, .iload 4, []), (14, .ifCond .ge 0, [1]), (17, .iconst (-1), []), (18, .goto 0, [2])],
  [(21, .iload 2, []), (22, .aload 1, []), (23, .getfield 0, [0, 1]), (26, .iload 4, []), (28, .invokevirtual 0, [2, 2, 4]), (31, .iadd, []), (32, .nop, [2])],
  [(32, .ireturn, [])]]
abbrev m_Sh_lastEnd : Nat := 142
noncomputable def bk_Sh_lastEnd : List (List AI) := [
  [(0, .iload 2, []), (1, .istore 4, []), (3, .iload 2, []), (4, .istore 5, []), (6, .nop, [1])],
  [(6, .iload 5, []), (8, .iload 3, []), (9, .if_icmp .ge 0, [4]), (12, .aload 0, []), (13, .aload 1, []), (14, .iload 4, []), (16, .iconst (-1), []), (17, .invokevirtual 0, [141, 4, 5]), (20, .istore 6, []), (22, .iload 6, []), (24, .ifCond .lt 0, [2]), (27, .iload 6, []), (29, .iload 3, []), (30, .if_icmp .le 0, [3]), (33, .nop, [2])],
  [(33, .iload 4, []), (35, .ireturn, [])],
  [(36, .iload 6, []), (38, .istore 4, []), (40, .iinc 5 1, []), (43, .goto 0, [1])],
  [(46, .iload 4, []), (48, .ireturn, [])]]
abbrev m_Sh_stepBehind : Nat := 143
noncomputable def bk_Sh_stepBehind : List (List AI) := [
  [(0, .iload 2, []), (1, .istore 4, []), (3, .iload 2, []), (4, .istore 5, []), (6, .iconst 0, []), (7, .istore 6, []), (9, .nop, [1])],
  [(9, .iload 6, []), (11, .iconst 6000, []), (14, .if_icmp .ge 0, [7]), (17, .iload 4, []), (19, .iload 5, []), (21, .if_icmp .gt 0, [2]), (24, .aload 0, []), (25, .aload 1, []), (26, .iload 4, []), (28, .iconst (-1), []), (29, .invokevirtual 0, [141, 4, 5]), (32, .istore 4, []), (34, .goto 0, [3])],
  [(37, .aload 0, []), (38, .aload 1, []), (39, .iload 5, []), (41, .iload 3, []), (42, .invokevirtual 0, [141, 4, 5]), (45, .istore 5, []), (47, .nop, [3])],
  [(47, .iload 4, []), (49, .ifCond .lt 0, [4]), (52, .iload 5, []), (54, .ifCond .ge 0, [5]), (57, .nop, [4])],
  [(57, .iconst (-1), []), (58, .ireturn, [])],
  [(59, .iload 4, []), (61, .iload 5, []), (63, .if_icmp .ne 0, [6]), (66, .iload 4, []), (68, .iload 3, []), (69, .if_icmp .le 0, [6]), (72, .iload 4, []), (74, .ireturn, [])],
  [(75, .iinc 6 1, []), (78, .goto 0, [1])],
  [(81, .iconst (-1), []), (82, .ireturn, [])]]
abbrev m_Sh_layFront : Nat := 144
noncomputable def bk_Sh_layFront : List (List AI) := [
  [(0, .aload 0, []), (1, .getfield 0, [5, 9]), (4, .invokevirtual 0, [7, 1, 4]), (7, .iconst 0, []), (8, .istore 1, []), (9, .nop, [1])],
  [(9, .iload 1, []), (10, .iconst 26, []), (12, .if_icmp .ge 0, [2]), (15, .aload 0, []), (16, .getfield 0, [5, 9]), (19, .iload 1, []), (20, .invokevirtual 0, [4, 2, 4]), (23, .iinc 1 1, []), (26, .goto 0, [1])],
  [(29, .return_, [])]]
abbrev m_Sh_bringToFront : Nat := 145
noncomputable def bk_Sh_bringToFront : List (List AI) := [
  [(0, .aload 0, []), (1, .getfield 0, [5, 9]), (4, .iload 1, []), (5, .invokevirtual 0, [2, 2, 4]), (8, .istore 2, []), (9, .aload 0, []), (10, .getfield 0, [5, 9]), (13, .iload 1, []), (14, .invokevirtual 0, [6, 2, 4]), (17, .aload 0, []), (18, .getfield 0, [5, 9]), (21, .iconst 0, []), (22, .iload 2, []), (23, .invokevirtual 0, [5, 3, 4]), (26, .return_, [])]]
abbrev m_Sh_tellMoves : Nat := 146
noncomputable def bk_Sh_tellMoves : List (List AI) := [
  [(0, .aload 2, []), (1, .invokevirtual 0, [7, 1, 4]), (4, .aload 0, []), (5, .invokevirtual 0, [144, 1, 5]), (8, .iconst 0, []), (9, .istore 3, []), (10, .nop, [1])],
  [(10, .iload 3, []), (11, .aload 1, []), (12, .invokevirtual 0, [1, 1, 4]), (15, .if_icmp .ge 0, [2]), (18, .aload 0, []), (19, .getfield 0, [5, 9]), (22, .aload 1, []), (23, .iload 3, []), (24, .invokevirtual 0, [2, 2, 4]), (27, .invokevirtual 0, [11, 2, 4]), (30, .istore 4, []), (32, .aload 2, []), (33, .iload 4, []), (35, .invokevirtual 0, [4, 2, 4]), (38, .aload 0, []), (39, .iload 4, []), (41, .invokevirtual 0, [145, 2, 5]), (44, .iinc 3 1, []), (47, .goto 0, [1])],
  [(50, .return_, [])]]
abbrev m_Sh_undoMoves : Nat := 147
noncomputable def bk_Sh_undoMoves : List (List AI) := [
  [(0, .aload 2, []), (1, .invokevirtual 0, [7, 1, 4]), (4, .aload 0, []), (5, .invokevirtual 0, [144, 1, 5]), (8, .iconst 0, []), (9, .istore 3, []), (10, .nop, [1])],
  [(10, .iload 3, []), (11, .aload 1, []), (12, .invokevirtual 0, [1, 1, 4]), (15, .if_icmp .ge 0, [2]), (18, .aload 2, []), (19, .aload 0, []), (20, .getfield 0, [5, 9]), (23, .aload 1, []), (24, .iload 3, []), (25, .invokevirtual 0, [2, 2, 4]), (28, .invokevirtual 0, [2, 2, 4]), (31, .invokevirtual 0, [4, 2, 4]), (34, .aload 0, []), (35, .aload 1, []), (36, .iload 3, []), (37, .invokevirtual 0, [2, 2, 4]), (40, .invokevirtual 0, [145, 2, 5]), (43, .iinc 3 1, []), (46, .goto 0, [1])],
  [(49, .return_, [])]]
abbrev m_Sh_tellRuns : Nat := 148
noncomputable def bk_Sh_tellRuns : List (List AI) := [
  [(0, .aload 1, []), (1, .invokevirtual 0, [7, 1, 4]), (4, .iconst 0, []), (5, .istore 2, []), (6, .iconst 0, []), (7, .istore 3, []), (8, .nop, [1])],
  [(8, .iload 3, []), (9, .aload 0, []), (10, .getfield 0, [5, 0]), (13, .invokevirtual 0, [1, 1, 4]), (16, .if_icmp .ge 0, [7]), (19, .iinc 2 1, []), (22, .iload 3, []), (23, .iconst 1, []), (24, .iadd, []), (25, .aload 0, []), (26, .getfield 0, [5, 0]), (29, .invokevirtual 0, [1, 1, 4]), (32, .if_icmp .eq 0, [2]), (35, .aload 0, []), (36, .getfield 0, [5, 0]), (39, .iload 3, []), (40, .iconst 1, []), (41, .iadd, []), (42, .invokevirtual 0, [2, 2, 4]), (45, .aload 0, []), (46, .getfield 0, [5, 0]), (49, .iload 3, []), (50, .invokevirtual 0, [2, 2, 4]), (53, .if_icmp .eq 0, [3]), (56, .nop, [2])],
  [(56, .iconst 1, []), (57, .goto 0, [4])],
  [(60, .iconst 0, []), (61, .nop, [4])],
  [(61, .istore 4, []), (63, .iload 4, []), (65, .ifCond .ne 0, [5]), (68, .iload 2, []), (69, .iconst 26, []), (71, .if_icmp .ne 0, [6]), (74, .nop, [5])],
  [(74, .aload 1, []), (75, .aload 0, []), (76, .getfield 0, [5, 0]), (79, .iload 3, []), (80, .invokevirtual 0, [2, 2, 4]), (83, .invokevirtual 0, [4, 2, 4]), (86, .aload 1, []), (87, .iload 2, []), (88, .iconst 1, []), (89, .isub, []), (90, .invokevirtual 0, [4, 2, 4]), (93, .iconst 0, []), (94, .istore 2, []), (95, .nop, [6])],
  [(95, .iinc 3 1, []), (98, .goto 0, [1])],
  [(101, .return_, [])]]
abbrev m_Sh_undoRuns : Nat := 149
noncomputable def bk_Sh_undoRuns : List (List AI) := [
  [(0, .aload 1, []), (1, .invokevirtual 0, [7, 1, 4]), (4, .iconst 0, []), (5, .istore 2, []), (6, .nop, [1])],
  [(6, .iload 2, []), (7, .iconst 1, []), (8, .iadd, []), (9, .aload 0, []), (10, .getfield 0, [5, 0]), (13, .invokevirtual 0, [1, 1, 4]), (16, .if_icmp .ge 0, [4]), (19, .iconst 0, []), (20, .istore 3, []), (21, .nop, [2])],
  [(21, .iload 3, []), (22, .aload 0, []), (23, .getfield 0, [5, 0]), (26, .iload 2, []), (27, .iconst 1, []), (28, .iadd, []), (29, .invokevirtual 0, [2, 2, 4]), (32, .if_icmp .gt 0, [3]), (35, .aload 1, []), (36, .aload 0, []), (37, .getfield 0, [5, 0]), (40, .iload 2, []), (41, .invokevirtual 0, [2, 2, 4]), (44, .invokevirtual 0, [4, 2, 4]), (47, .iinc 3 1, []), (50, .goto 0, [2])],
  [(53, .iinc 2 2, []), (56, .goto 0, [1])],
  [(59, .return_, [])]]
abbrev m_Sh_codeIsSound : Nat := 150
noncomputable def bk_Sh_codeIsSound : List (List AI) := [
  [(0, .aload 1, []), (1, .getfield 0, [0, 0]), (4, .iconst 104, []), (6, .if_icmp .eq 0, [1]), (9, .aload 1, []), (10, .getfield 0, [0, 0]), (13, .iconst 98, []), (15, .if_icmp .eq 0, [1]), (18, .aload 1, []), (19, .getfield 0, [0, 0]), (22, .iconst 111, []), (24, .if_icmp .ne 0, [2]), (27, .nop, [1])],
  [(27, .iconst 1, []), (28, .goto 0, [3])],
  [(31, .iconst 0, []), (32, .nop, [3])],
  [(32, .istore 2, []), (33, .aload 1, []), (34, .invokevirtual 0, [34, 1, 0]), (37, .ifCond .eq 0, [5]), (40, .iload 2, []), (41, .ifCond .eq 0, [4]), (44, .aload 1, []), (45, .invokevirtual 0, [26, 1, 0]), (48, .ldc2_w 0, [33554432, 0]), (51, .lcmp, []), (52, .ifCond .ne 0, [5]), (55, .nop, [4])],
  [(55, .aload 0, []), (56, .aload 1, []), (57, .invokevirtual 0, [151, 2, 5]), (60, .ifCond .eq 0, [5]), (63, .iconst 1, []), (64, .goto 0, [6])],
  [(67, .iconst 0, []), (68, .nop, [6])],
  [(68, .ireturn, [2])]]
abbrev m_Sh_comesBackBy : Nat := 151
noncomputable def bk_Sh_comesBackBy : List (List AI) := [
  [(0, .aload 1, []), (1, .invokevirtual 0, [17, 1, 0]), (4, .ifCond .ne 0, [1]), (7, .aload 1, []), (8, .aload 0, []), (9, .getfield 0, [5, 0]), (12, .invokevirtual 0, [20, 2, 0]), (15, .ifCond .ne 0, [2]), (18, .nop, [1])],
  [(18, .iconst 1, []), (19, .ireturn, [2])],
  [(20, .aload 0, []), (21, .aload 1, []), (22, .aload 0, []), (23, .getfield 0, [5, 16]), (26, .invokevirtual 0, [138, 3, 5]), (29, .aload 1, []), (30, .aload 0, []), (31, .getfield 0, [5, 16]), (34, .aload 0, []), (35, .getfield 0, [5, 0]), (38, .invokevirtual 0, [1, 1, 4]), (41, .aload 0, []), (42, .getfield 0, [5, 14]), (45, .invokestatic 0, [139, 4]), (48, .aload 0, []), (49, .getfield 0, [5, 0]), (52, .aload 0, []), (53, .getfield 0, [5, 14]), (56, .invokevirtual 0, [10, 2, 4]), (59, .ireturn, [2])]]
abbrev m_Sh_costsAreSound : Nat := 152
noncomputable def bk_Sh_costsAreSound : List (List AI) := [
  [(0, .aload 0, []), (1, .invokevirtual 0, [124, 1, 5]), (4, .istore 1, []), (5, .iload 1, []), (6, .ifCond .ne 0, [1]), (9, .iconst 1, []), (10, .ireturn, [2])],
  [(11, .aload 0, []), (12, .invokevirtual 0, [84, 1, 5]), (15, .istore 2, []), (16, .aload 0, []), (17, .invokevirtual 0, [130, 1, 5]), (20, .iload 2, []), (21, .if_icmp .ge 0, [2]), (24, .iconst 0, []), (25, .ireturn, [2])],
  [(26, .iconst (-1), []), (27, .istore 3, []), (28, .iconst 1, []), (29, .istore 4, []), (31, .nop, [3])],
  [(31, .iload 4, []), (33, .iconst 25, []), (35, .if_icmp .gt 0, [7]), (38, .iload 1, []), (39, .iconst 1, []), (40, .iload 4, []), (42, .ishl, []), (43, .if_icmp .gt 0, [6]), (46, .aload 0, []), (47, .iload 4, []), (49, .invokevirtual 0, [129, 2, 5]), (52, .istore 5, []), (54, .iload 5, []), (56, .iload 2, []), (57, .if_icmp .lt 0, [4]), (60, .iload 3, []), (61, .ifCond .lt 0, [5]), (64, .iload 5, []), (66, .iload 3, []), (67, .if_icmp .le 0, [5]), (70, .nop, [4])],
  [(70, .iconst 0, []), (71, .ireturn, [2])],
  [(72, .iload 5, []), (74, .istore 3, []), (75, .nop, [6])],
  [(75, .iinc 4 1, []), (78, .goto 0, [3])],
  [(81, .iconst 1, []), (82, .ireturn, [2])]]
abbrev m_Sh_comesBackFromMoves : Nat := 153
noncomputable def bk_Sh_comesBackFromMoves : List (List AI) := [
  [(0, .aload 0, []), (1, .aload 0, []), (2, .getfield 0, [5, 0]), (5, .aload 0, []), (6, .getfield 0, [5, 15]), (9, .invokevirtual 0, [146, 3, 5]), (12, .aload 0, []), (13, .aload 0, []), (14, .getfield 0, [5, 15]), (17, .aload 0, []), (18, .getfield 0, [5, 14]), (21, .invokevirtual 0, [147, 3, 5]), (24, .aload 0, []), (25, .getfield 0, [5, 0]), (28, .aload 0, []), (29, .getfield 0, [5, 14]), (32, .invokevirtual 0, [10, 2, 4]), (35, .ireturn, [2])]]
abbrev m_Sh_comesBackFromGrowing : Nat := 154
noncomputable def bk_Sh_comesBackFromGrowing : List (List AI) := [
  [(0, .aload 0, []), (1, .getfield 0, [5, 7]), (4, .aload 0, []), (5, .getfield 0, [5, 0]), (8, .aload 0, []), (9, .getfield 0, [5, 16]), (12, .invokevirtual 0, [52, 3, 3]), (15, .aload 0, []), (16, .getfield 0, [5, 7]), (19, .aload 0, []), (20, .getfield 0, [5, 16]), (23, .aload 0, []), (24, .getfield 0, [5, 0]), (27, .invokevirtual 0, [1, 1, 4]), (30, .aload 0, []), (31, .getfield 0, [5, 14]), (34, .invokevirtual 0, [53, 4, 3]), (37, .aload 0, []), (38, .getfield 0, [5, 0]), (41, .aload 0, []), (42, .getfield 0, [5, 14]), (45, .invokevirtual 0, [10, 2, 4]), (48, .ireturn, [2])]]
abbrev m_Mo_init : Nat := 155
noncomputable def bk_Mo_init : List (List AI) := [
  [(0, .aload 0, []), (1, .invokespecial 0, []), (4, .aload 0, []), (5, .iconst 26, []), (7, .newarray .int, [0]), (9, .putfield 0, [6, 0, 2]), (12, .aload 0, []), (13, .iconst 120, []), (15, .newarray .int, [0]), (17, .putfield 0, [6, 1, 2]), (20, .aload 0, []), (21, .iconst 12, []), (23, .newarray .int, [1]), (25, .putfield 0, [6, 3, 2]), (28, .aload 0, []), (29, .iconst 12, []), (31, .anewarray 0, [1]), (34, .putfield 0, [6, 4, 2]), (37, .aload 0, []), (38, .iconst 12, []), (40, .anewarray 0, [2]), (43, .putfield 0, [6, 5, 2]), (46, .aload 0, []), (47, .iconst 4200, []), (50, .newarray .int, [0]), (52, .putfield 0, [6, 7, 2]), (55, .aload 0, []), (56, .iconst 26, []), (58, .newarray .int, [0]), (60, .putfield 0, [6, 11, 2]), (63, .aload 0, []), (64, .iconst 120, []), (66, .newarray .int, [0]), (68, .putfield 0, [6, 12, 2]), (71, .aload 0, []), (72, .iconst 27, []), (74, .newarray .int, [0]), (76, .putfield 0, [6, 13, 2]), (79, .aload 0, []), (80, .iconst 27, []), (82, .newarray .int, [0]), (84, .putfield 0, [6, 14, 2]), (87, .aload 0, []), (88, .iconst 27, []), (90, .newarray .int, [3]), (92, .putfield 0, [6, 15, 2]), (95, .aload 0, []), (96, .iconst 242, []), (99, .newarray .int, [0]), (101, .putfield 0, [6, 16, 2]), (104, .aload 0, []), (105, .iconst 242, []), (108, .newarray .int, [0]), (110, .putfield 0, [6, 17, 2]), (113, .aload 0, []), (114, .iconst 242, []), (117, .newarray .int, [2]), (119, .putfield 0, [6, 18, 2]), (122, .aload 0, []), (123, .iconst 4201, []), (126, .newarray .int, [2]), (128, .putfield 0, [6, 19, 2]), (131, .aload 0, []), (132, .iconst 4201, []), (135, .newarray .int, [2]), (137, .putfield 0, [6, 20, 2]), (140, .aload 0, []), (141, .iconst 2, []), (142, .iconst 52, []), (144, .iconst 27, []), (146, .multianewarray 0 3, []), (150, .putfield 0, [6, 21, 2]), (153, .aload 0, []), (154, .iconst 2, []), (155, .iconst 52, []), (157, .multianewarray 0 2, []), (161, .putfield 0, [6, 22, 2]), (164, .return_, [])]]
abbrev m_Mo_thrown : Nat := 156
noncomputable def bk_Mo_thrown : List (List AI) := [
  [(0, .aload 0, []), (1, .getfield 0, [6, 10]), (4, .ireturn, [])]]
abbrev m_Mo_no : Nat := 157
noncomputable def bk_Mo_no : List (List AI) := [
  [(0, .aload 0, []), (1, .iload 1, []), (2, .ifCond .eq 0, [1]), (5, .iconst 0, []), (6, .goto 0, [2])],
  [(9, .iload 2, []), (10, .nop, [2])],
  [(10, .putfield 0, [6, 10, 0]), (13, .iload 1, []), (14, .ifCond .ne 0, [3]), (17, .iconst 1, []), (18, .goto 0, [4])],
  [(21, .iconst 0, []), (22, .nop, [4])],
  [(22, .ireturn, [2])]]
abbrev m_Mo_in : Nat := 158
noncomputable def bk_Mo_in : List (List AI) := [
  [(0, .iload 0, []), (1, .iload 1, []), (2, .if_icmp .lt 0, [1]), (5, .iload 0, []), (6, .iload 2, []), (7, .if_icmp .gt 0, [1]), (10, .iconst 1, []), (11, .goto 0, [2])],
  [(14, .iconst 0, []), (15, .nop, [2])],
  [(15, .ireturn, [2])]]
abbrev m_Mo_isSign : Nat := 159
noncomputable def bk_Mo_isSign : List (List AI) := [
  [(0, .iload 0, []), (1, .iconst 97, []), (3, .iconst 122, []), (5, .invokestatic 0, [158, 3]), (8, .ireturn, [2])]]
abbrev m_Mo_isCode : Nat := 160
noncomputable def bk_Mo_isCode : List (List AI) := [
  [(0, .iload 1, []), (1, .iconst 0, []), (2, .aload 0, []), (3, .getfield 0, [6, 6]), (6, .iconst 1, []), (7, .isub, []), (8, .invokestatic 0, [158, 3]), (11, .ireturn, [2])]]
abbrev m_Mo_type : Nat := 161
noncomputable def bk_Mo_type : List (List AI) := [
  [(0, .aload 0, []), (1, .iload 1, []), (2, .invokestatic 0, [159, 1]), (5, .iconst 1, []), (6, .invokevirtual 0, [157, 3, 6]), (9, .ifCond .ne 0, [3]), (12, .aload 0, []), (13, .aload 0, []), (14, .getfield 0, [6, 2]), (17, .iconst 120, []), (19, .if_icmp .ge 0, [1]), (22, .iconst 1, []), (23, .goto 0, [2])],
  [(26, .iconst 0, []), (27, .nop, [2])],
  [(27, .iconst 2, []), (28, .invokevirtual 0, [157, 3, 6]), (31, .ifCond .eq 0, [4]), (34, .nop, [3])],
  [(34, .iconst 0, []), (35, .ireturn, [])],
  [(36, .aload 0, []), (37, .getfield 0, [6, 1]), (40, .aload 0, []), (41, .getfield 0, [6, 2]), (44, .iload 1, []), (45, .iconst 97, []), (47, .isub, []), (48, .iastore, []), (49, .aload 0, []), (50, .dup, []), (51, .getfield 0, [6, 2]), (54, .iconst 1, []), (55, .iadd, []), (56, .putfield 0, [6, 2, 0]), (59, .aload 0, []), (60, .getfield 0, [6, 2]), (63, .ireturn, [])]]
abbrev m_Mo_typeMore : Nat := 162
noncomputable def bk_Mo_typeMore : List (List AI) := [
  [(0, .iconst 8, []), (2, .newarray .int, [1]), (4, .dup, []), (5, .iconst 0, []), (6, .iload 2, []), (7, .castore, []), (8, .dup, []), (9, .iconst 1, []), (10, .iload 3, []), (11, .castore, []), (12, .dup, []), (13, .iconst 2, []), (14, .iload 4, []), (16, .castore, []), (17, .dup, []), (18, .iconst 3, []), (19, .iload 5, []), (21, .castore, []), (22, .dup, []), (23, .iconst 4, []), (24, .iload 6, []), (26, .castore, []), (27, .dup, []), (28, .iconst 5, []), (29, .iload 7, []), (31, .castore, []), (32, .dup, []), (33, .iconst 6, []), (35, .iload 8, []), (37, .castore, []), (38, .dup, []), (39, .iconst 7, []), (41, .iload 9, []), (43, .castore, []), (44, .astore 10, []), (46, .iload 1, []), (47, .iconst 1, []), (48, .iconst 8, []), (50, .invokestatic 0, [158, 3]), (53, .istore 11, []), (55, .iconst 0, []), (56, .istore 12, []), (58, .nop, [1])],
  [(58, .iload 12, []), (60, .iconst 8, []), (62, .if_icmp .ge 0, [4]), (65, .iload 12, []), (67, .iload 1, []), (68, .if_icmp .ge 0, [4]), (71, .iload 11, []), (73, .ifCond .eq 0, [2]), (76, .aload 10, []), (78, .iload 12, []), (80, .caload, []), (81, .invokestatic 0, [159, 1]), (84, .ifCond .eq 0, [2]), (87, .iconst 1, []), (88, .goto 0, [3])],
  [(91, .iconst 0, []), (92, .nop, [3])],
  [(92, .istore 11, []), (94, .iinc 12 1, []), (97, .goto 0, [1])],
  [(100, .aload 0, []), (101, .iload 11, []), (103, .iconst 1, []), (104, .invokevirtual 0, [157, 3, 6]), (107, .ifCond .ne 0, [7]), (110, .aload 0, []), (111, .aload 0, []), (112, .getfield 0, [6, 2]), (115, .iload 1, []), (116, .iadd, []), (117, .iconst 120, []), (119, .if_icmp .gt 0, [5]), (122, .iconst 1, []), (123, .goto 0, [6])],
  [(126, .iconst 0, []), (127, .nop, [6])],
  [(127, .iconst 2, []), (128, .invokevirtual 0, [157, 3, 6]), (131, .ifCond .eq 0, [8]), (134, .nop, [7])],
  [(134, .iconst 0, []), (135, .ireturn, [])],
  [(136, .iconst 0, []), (137, .istore 12, []), (139, .nop, [9])],
  [(139, .iload 12, []), (141, .iload 1, []), (142, .if_icmp .ge 0, [10]), (145, .aload 0, []), (146, .getfield 0, [6, 1]), (149, .aload 0, []), (150, .getfield 0, [6, 2]), (153, .aload 10, []), (155, .iload 12, []), (157, .caload, []), (158, .iconst 97, []), (160, .isub, []), (161, .iastore, []), (162, .aload 0, []), (163, .dup, []), (164, .getfield 0, [6, 2]), (167, .iconst 1, []), (168, .iadd, []), (169, .putfield 0, [6, 2, 0]), (172, .iinc 12 1, []), (175, .goto 0, [9])],
  [(178, .aload 0, []), (179, .getfield 0, [6, 2]), (182, .ireturn, [])]]
abbrev m_Mo_wipe : Nat := 163
noncomputable def bk_Mo_wipe : List (List AI) := [
  [(0, .aload 0, []), (1, .iconst 0, []), (2, .putfield 0, [6, 10, 0]), (5, .aload 0, []), (6, .getfield 0, [6, 2]), (9, .istore 1, []), (10, .aload 0, []), (11, .iconst 0, []), (12, .putfield 0, [6, 2, 0]), (15, .iload 1, []), (16, .ireturn, [])]]
abbrev m_Mo_length : Nat := 164
noncomputable def bk_Mo_length : List (List AI) := [
  [(0, .aload 0, []), (1, .iconst 0, []), (2, .putfield 0, [6, 10, 0]), (5, .aload 0, []), (6, .getfield 0, [6, 2]), (9, .ireturn, [])]]
abbrev m_Mo_typed : Nat := 165
noncomputable def bk_Mo_typed : List (List AI) := [
  [(0, .aload 0, []), (1, .iload 1, []), (2, .iconst 0, []), (3, .aload 0, []), (4, .getfield 0, [6, 2]), (7, .iconst 1, []), (8, .isub, []), (9, .invokestatic 0, [158, 3]), (12, .iconst 1, []), (13, .invokevirtual 0, [157, 3, 6]), (16, .ifCond .eq 0, [1]), (19, .iconst 97, []), (21, .goto 0, [2])],
  [(24, .iconst 97, []), (26, .aload 0, []), (27, .getfield 0, [6, 1]), (30, .iload 1, []), (31, .iaload, []), (32, .iadd, []), (33, .i2c, []), (34, .nop, [2])],
  [(34, .ireturn, [1])]]
abbrev m_Mo_set : Nat := 166
noncomputable def bk_Mo_set : List (List AI) := [
  [(0, .aload 0, []), (1, .iload 1, []), (2, .invokestatic 0, [159, 1]), (5, .ifCond .eq 0, [1]), (8, .iload 2, []), (9, .iconst 0, []), (10, .iconst 9999, []), (13, .invokestatic 0, [158, 3]), (16, .ifCond .eq 0, [1]), (19, .iconst 1, []), (20, .goto 0, [2])],
  [(23, .iconst 0, []), (24, .nop, [2])],
  [(24, .iconst 1, []), (25, .invokevirtual 0, [157, 3, 6]), (28, .ifCond .eq 0, [3]), (31, .iconst 0, []), (32, .ireturn, [])],
  [(33, .aload 0, []), (34, .getfield 0, [6, 0]), (37, .iload 1, []), (38, .iconst 97, []), (40, .isub, []), (41, .iaload, []), (42, .istore 3, []), (43, .aload 0, []), (44, .getfield 0, [6, 0]), (47, .iload 1, []), (48, .iconst 97, []), (50, .isub, []), (51, .iload 2, []), (52, .iastore, []), (53, .iload 3, []), (54, .ireturn, [])]]
abbrev m_Mo_count : Nat := 167
noncomputable def bk_Mo_count : List (List AI) := [
  [(0, .aload 0, []), (1, .iload 1, []), (2, .invokestatic 0, [159, 1]), (5, .iconst 1, []), (6, .invokevirtual 0, [157, 3, 6]), (9, .ifCond .eq 0, [1]), (12, .iconst 0, []), (13, .goto 0, [2])],
  [(16, .aload 0, []), (17, .getfield 0, [6, 0]), (20, .iload 1, []), (21, .iconst 97, []), (23, .isub, []), (24, .iaload, []), (25, .nop, [2])],
  [(25, .ireturn, [])]]
abbrev m_Mo_above : Nat := 168
noncomputable def bk_Mo_above : List (List AI) := [
  [(0, .iconst 0, []), (1, .istore 1, []), (2, .aload 0, []), (3, .astore 2, []), (4, .aload 2, []), (5, .arraylength, []), (6, .istore 3, []), (7, .iconst 0, []), (8, .istore 4, []), (10, .nop, [1])],
  [(10, .iload 4, []), (12, .iload 3, []), (13, .if_icmp .ge 0, [4]), (16, .aload 2, []), (17, .iload 4, []), (19, .iaload, []), (20, .istore 5, []), (22, .iload 1, []), (23, .iload 5, []), (25, .ifCond .le 0, [2]), (28, .iconst 1, []), (29, .goto 0, [3])],
  [(32, .iconst 0, []), (33, .nop, [3])],
  [(33, .iadd, []), (34, .istore 1, []), (35, .iinc 4 1, []), (38, .goto 0, [1])],
  [(41, .iload 1, []), (42, .ireturn, [])]]
abbrev m_Mo_countsOf : Nat := 169
noncomputable def bk_Mo_countsOf : List (List AI) := [
  [(0, .iconst 0, []), (1, .istore 3, []), (2, .nop, [1])],
  [(2, .iload 3, []), (3, .iconst 26, []), (5, .if_icmp .ge 0, [2]), (8, .aload 0, []), (9, .getfield 0, [6, 11]), (12, .iload 3, []), (13, .iconst 0, []), (14, .iastore, []), (15, .iinc 3 1, []), (18, .goto 0, [1])],
  [(21, .iload 1, []), (22, .istore 3, []), (23, .nop, [3])],
  [(23, .iload 3, []), (24, .iload 2, []), (25, .if_icmp .ge 0, [4]), (28, .aload 0, []), (29, .getfield 0, [6, 11]), (32, .aload 0, []), (33, .getfield 0, [6, 1]), (36, .iload 3, []), (37, .iaload, []), (38, .dup2, []), (39, .iaload, []), (40, .iconst 1, []), (41, .iadd, []), (42, .iastore, []), (43, .iinc 3 1, []), (46, .goto 0, [3])],
  [(49, .aload 0, []), (50, .getfield 0, [6, 11]), (53, .areturn, [])]]
abbrev m_Mo_take : Nat := 170
noncomputable def bk_Mo_take : List (List AI) := [
  [(0, .aload 0, []), (1, .iconst 0, []), (2, .putfield 0, [6, 10, 0]), (5, .aload 0, []), (6, .iconst 0, []), (7, .aload 0, []), (8, .getfield 0, [6, 2]), (11, .invokevirtual 0, [169, 3, 6]), (14, .astore 1, []), (15, .iconst 0, []), (16, .istore 2, []), (17, .nop, [1])],
  [(17, .iload 2, []), (18, .iconst 26, []), (20, .if_icmp .ge 0, [2]), (23, .aload 0, []), (24, .getfield 0, [6, 0]), (27, .iload 2, []), (28, .aload 1, []), (29, .iload 2, []), (30, .iaload, []), (31, .iastore, []), (32, .iinc 2 1, []), (35, .goto 0, [1])],
  [(38, .aload 1, []), (39, .invokestatic 0, [168, 1]), (42, .ireturn, [])]]
abbrev m_Mo_clear : Nat := 171
noncomputable def bk_Mo_clear : List (List AI) := [
  [(0, .aload 0, []), (1, .iconst 0, []), (2, .putfield 0, [6, 10, 0]), (5, .iconst 0, []), (6, .istore 1, []), (7, .iconst 0, []), (8, .istore 2, []), (9, .nop, [1])],
  [(9, .iload 2, []), (10, .iconst 26, []), (12, .if_icmp .ge 0, [2]), (15, .iload 1, []), (16, .aload 0, []), (17, .getfield 0, [6, 0]), (20, .iload 2, []), (21, .iaload, []), (22, .iadd, []), (23, .istore 1, []), (24, .aload 0, []), (25, .getfield 0, [6, 0]), (28, .iload 2, []), (29, .iconst 0, []), (30, .iastore, []), (31, .iinc 2 1, []), (34, .goto 0, [1])],
  [(37, .iload 1, []), (38, .ireturn, [])]]
abbrev m_Mo_joined : Nat := 172
noncomputable def bk_Mo_joined : List (List AI) := [
  [(0, .aload 1, []), (1, .arraylength, []), (2, .istore 4, []), (4, .aload 1, []), (5, .invokestatic 0, [168, 1]), (8, .istore 5, []), (10, .iconst 0, []), (11, .istore 6, []), (13, .nop, [1])],
  [(13, .iload 6, []), (15, .iconst 2, []), (16, .iload 4, []), (18, .imul, []), (19, .iconst 2, []), (20, .iadd, []), (21, .if_icmp .ge 0, [2]), (24, .aload 0, []), (25, .getfield 0, [6, 16]), (28, .iload 6, []), (30, .iconst 0, []), (31, .iastore, []), (32, .aload 0, []), (33, .getfield 0, [6, 17]), (36, .iload 6, []), (38, .iconst 0, []), (39, .iastore, []), (40, .aload 0, []), (41, .getfield 0, [6, 18]), (44, .iload 6, []), (46, .iconst 0, []), (47, .bastore, []), (48, .iinc 6 1, []), (51, .goto 0, [1])],
  [(54, .iconst 0, []), (55, .istore 6, []), (57, .nop, [3])],
  [(57, .iload 6, []), (59, .iload 4, []), (61, .if_icmp .ge 0, [6]), (64, .aload 0, []), (65, .getfield 0, [6, 16]), (68, .iload 6, []), (70, .iconst 1, []), (71, .iadd, []), (72, .aload 1, []), (73, .iload 6, []), (75, .iaload, []), (76, .iastore, []), (77, .aload 0, []), (78, .getfield 0, [6, 18]), (81, .iload 6, []), (83, .iconst 1, []), (84, .iadd, []), (85, .aload 1, []), (86, .iload 6, []), (88, .iaload, []), (89, .ifCond .le 0, [4]), (92, .iconst 1, []), (93, .goto 0, [5])],
  [(96, .iconst 0, []), (97, .nop, [5])],
  [(97, .bastore, []), (98, .iinc 6 1, []), (101, .goto 0, [3])],
  [(104, .iload 2, []), (105, .iconst 3, []), (106, .if_icmp .ne 0, [7]), (109, .iload 5, []), (111, .iconst 2, []), (112, .irem, []), (113, .ifCond .ne 0, [7]), (116, .aload 0, []), (117, .getfield 0, [6, 18]), (120, .iconst 0, []), (121, .iconst 1, []), (122, .bastore, []), (123, .iinc 5 1, []), (126, .nop, [7])],
  [(126, .iload 4, []), (128, .iconst 1, []), (129, .iadd, []), (130, .istore 6, []), (132, .nop, [8])],
  [(132, .iload 5, []), (134, .iconst 1, []), (135, .if_icmp .le 0, [16]), (138, .iconst 0, []), (139, .istore 7, []), (141, .nop, [9])],
  [(141, .iload 7, []), (143, .iload 2, []), (144, .if_icmp .ge 0, [15]), (147, .iconst (-1), []), (148, .istore 8, []), (150, .iconst 0, []), (151, .istore 9, []), (153, .nop, [10])],
  [(153, .iload 9, []), (155, .iload 6, []), (157, .if_icmp .ge 0, [14]), (160, .aload 0, []), (161, .getfield 0, [6, 18]), (164, .iload 9, []), (166, .baload, []), (167, .ifCond .eq 0, [12]), (170, .iload 8, []), (172, .ifCond .lt 0, [11]), (175, .aload 0, []), (176, .getfield 0, [6, 16]), (179, .iload 9, []), (181, .iaload, []), (182, .aload 0, []), (183, .getfield 0, [6, 16]), (186, .iload 8, []), (188, .iaload, []), (189, .if_icmp .ge 0, [12]), (192, .nop, [11])],
  [(192, .iload 9, []), (194, .goto 0, [13])],
  [(197, .iload 8, []), (199, .nop, [13])],
  [(199, .istore 8, []), (201, .iinc 9 1, []), (204, .goto 0, [10])],
  [(207, .aload 0, []), (208, .getfield 0, [6, 18]), (211, .iload 8, []), (213, .iconst 0, []), (214, .bastore, []), (215, .aload 0, []), (216, .getfield 0, [6, 17]), (219, .iload 8, []), (221, .iload 6, []), (223, .iastore, []), (224, .aload 0, []), (225, .getfield 0, [6, 16]), (228, .iload 6, []), (230, .dup2, []), (231, .iaload, []), (232, .aload 0, []), (233, .getfield 0, [6, 16]), (236, .iload 8, []), (238, .iaload, []), (239, .iadd, []), (240, .iastore, []), (241, .iinc 7 1, []), (244, .goto 0, [9])],
  [(247, .aload 0, []), (248, .getfield 0, [6, 18]), (251, .iload 6, []), (253, .iconst 1, []), (254, .bastore, []), (255, .iinc 6 1, []), (258, .iload 5, []), (260, .iload 2, []), (261, .iconst 1, []), (262, .isub, []), (263, .isub, []), (264, .istore 5, []), (266, .goto 0, [8])],
  [(269, .iconst 0, []), (270, .istore 7, []), (272, .nop, [17])],
  [(272, .iload 7, []), (274, .iload 4, []), (276, .if_icmp .ge 0, [22]), (279, .aload 3, []), (280, .iload 7, []), (282, .aload 1, []), (283, .iload 7, []), (285, .iaload, []), (286, .ifCond .le 0, [18]), (289, .iconst 0, []), (290, .goto 0, [19])],
  [(293, .iconst (-1), []), (294, .nop, [19])],
  [(294, .iastore, []), (295, .aload 0, []), (296, .getfield 0, [6, 17]), (299, .iload 7, []), (301, .iconst 1, []), (302, .iadd, []), (303, .iaload, []), (304, .istore 8, []), (306, .nop, [20])],
  [(306, .aload 1, []), (307, .iload 7, []), (309, .iaload, []), (310, .ifCond .le 0, [21]), (313, .iload 8, []), (315, .ifCond .le 0, [21]), (318, .aload 3, []), (319, .iload 7, []), (321, .dup2, []), (322, .iaload, []), (323, .iconst 1, []), (324, .iadd, []), (325, .iastore, []), (326, .aload 0, []), (327, .getfield 0, [6, 17]), (330, .iload 8, []), (332, .iaload, []), (333, .istore 8, []), (335, .goto 0, [20])],
  [(338, .iinc 7 1, []), (341, .goto 0, [17])],
  [(344, .aload 3, []), (345, .areturn, [])]]
abbrev m_Mo_cost : Nat := 173
noncomputable def bk_Mo_cost : List (List AI) := [
  [(0, .iconst 0, []), (1, .istore 2, []), (2, .iconst 0, []), (3, .istore 3, []), (4, .nop, [1])],
  [(4, .iload 3, []), (5, .aload 0, []), (6, .arraylength, []), (7, .if_icmp .ge 0, [4]), (10, .iload 2, []), (11, .aload 0, []), (12, .iload 3, []), (13, .iaload, []), (14, .ifCond .le 0, [2]), (17, .aload 0, []), (18, .iload 3, []), (19, .iaload, []), (20, .aload 1, []), (21, .iload 3, []), (22, .iaload, []), (23, .imul, []), (24, .goto 0, [3])],
  [(27, .iconst 0, []), (28, .nop, [3])],
  [(28, .iadd, []), (29, .istore 2, []), (30, .iinc 3 1, []), (33, .goto 0, [1])],
  [(36, .iload 2, []), (37, .ireturn, [])]]
abbrev m_Mo_packed : Nat := 174
noncomputable def bk_Mo_packed : List (List AI) := [
  [(0, .aload 1, []), (1, .invokestatic 0, [168, 1]), (4, .istore 4, []), (6, .iconst 0, []), (7, .istore 5, []), (9, .iconst 0, []), (10, .istore 6, []), (12, .nop, [1])],
  [(12, .iload 6, []), (14, .iload 2, []), (15, .if_icmp .ge 0, [13]), (18, .aload 0, []), (19, .getfield 0, [6, 22]), (22, .iload 6, []), (24, .iconst 2, []), (25, .irem, []), (26, .aaload, []), (27, .astore 7, []), (29, .aload 0, []), (30, .getfield 0, [6, 22]), (33, .iconst 1, []), (34, .iload 6, []), (36, .iconst 2, []), (37, .irem, []), (38, .isub, []), (39, .aaload, []), (40, .astore 8, []), (42, .iconst 0, []), (43, .istore 9, []), (45, .iconst 0, []), (46, .istore 10, []), (48, .nop, [2])],
  [(48, .iload 10, []), (50, .iconst 26, []), (52, .if_icmp .ge 0, [8]), (55, .aload 1, []), (56, .iload 10, []), (58, .iaload, []), (59, .ifCond .le 0, [7]), (62, .aload 0, []), (63, .getfield 0, [6, 21]), (66, .iload 6, []), (68, .iconst 2, []), (69, .irem, []), (70, .aaload, []), (71, .iload 9, []), (73, .aaload, []), (74, .astore 11, []), (76, .iconst 0, []), (77, .istore 12, []), (79, .nop, [3])],
  [(79, .iload 12, []), (81, .iconst 26, []), (83, .if_icmp .ge 0, [6]), (86, .aload 11, []), (88, .iload 12, []), (90, .iload 12, []), (92, .iload 10, []), (94, .if_icmp .ne 0, [4]), (97, .ldc2_w 0, [1, 0]), (98, .goto 0, [5])],
  [(101, .ldc2_w 0, [0, 0]), (102, .nop, [5])],
  [(102, .lastore, []), (103, .iinc 12 1, []), (106, .goto 0, [3])],
  [(109, .aload 11, []), (111, .iconst 26, []), (113, .aload 1, []), (114, .iload 10, []), (116, .iaload, []), (117, .i2l, []), (118, .lastore, []), (119, .aload 7, []), (121, .iload 9, []), (123, .aload 11, []), (125, .invokestatic 0, [175, 3]), (128, .istore 9, []), (130, .nop, [7])],
  [(130, .iinc 10 1, []), (133, .goto 0, [2])],
  [(136, .iconst 0, []), (137, .istore 10, []), (139, .nop, [9])],
  [(139, .iload 10, []), (141, .iconst 1, []), (142, .iadd, []), (143, .iload 5, []), (145, .if_icmp .ge 0, [12]), (148, .aload 0, []), (149, .getfield 0, [6, 21]), (152, .iload 6, []), (154, .iconst 2, []), (155, .irem, []), (156, .aaload, []), (157, .iload 9, []), (159, .aaload, []), (160, .astore 11, []), (162, .iconst 0, []), (163, .istore 12, []), (165, .nop, [10])],
  [(165, .iload 12, []), (167, .iconst 26, []), (169, .if_icmp .gt 0, [11]), (172, .aload 11, []), (174, .iload 12, []), (176, .aload 8, []), (178, .iload 10, []), (180, .aaload, []), (181, .iload 12, []), (183, .laload, []), (184, .aload 8, []), (186, .iload 10, []), (188, .iconst 1, []), (189, .iadd, []), (190, .aaload, []), (191, .iload 12, []), (193, .laload, []), (194, .ladd, []), (195, .lastore, []), (196, .iinc 12 1, []), (199, .goto 0, [10])],
  [(202, .aload 7, []), (204, .iload 9, []), (206, .aload 11, []), (208, .invokestatic 0, [175, 3]), (211, .istore 9, []), (213, .iinc 10 2, []), (216, .goto 0, [9])],
  [(219, .iload 9, []), (221, .istore 5, []), (223, .iinc 6 1, []), (226, .goto 0, [1])],
  [(229, .aload 0, []), (230, .getfield 0, [6, 22]), (233, .iload 2, []), (234, .iconst 1, []), (235, .iadd, []), (236, .iconst 2, []), (237, .irem, []), (238, .aaload, []), (239, .astore 6, []), (241, .iconst 0, []), (242, .istore 7, []), (244, .nop, [14])],
  [(244, .iload 7, []), (246, .iconst 26, []), (248, .if_icmp .ge 0, [19]), (251, .aload 3, []), (252, .iload 7, []), (254, .aload 1, []), (255, .iload 7, []), (257, .iaload, []), (258, .ifCond .le 0, [15]), (261, .iconst 0, []), (262, .goto 0, [16])],
  [(265, .iconst (-1), []), (266, .nop, [16])],
  [(266, .iastore, []), (267, .iconst 0, []), (268, .istore 8, []), (270, .nop, [17])],
  [(270, .iload 8, []), (272, .iconst 2, []), (273, .iload 4, []), (275, .imul, []), (276, .iconst 2, []), (277, .isub, []), (278, .if_icmp .ge 0, [18]), (281, .aload 1, []), (282, .iload 7, []), (284, .iaload, []), (285, .ifCond .le 0, [18]), (288, .aload 3, []), (289, .iload 7, []), (291, .dup2, []), (292, .iaload, []), (293, .aload 6, []), (295, .iload 8, []), (297, .aaload, []), (298, .iload 7, []), (300, .laload, []), (301, .l2i, []), (302, .iadd, []), (303, .iastore, []), (304, .iinc 8 1, []), (307, .goto 0, [17])],
  [(310, .iinc 7 1, []), (313, .goto 0, [14])],
  [(316, .aload 3, []), (317, .areturn, [])]]
abbrev m_Mo_put : Nat := 175
noncomputable def bk_Mo_put : List (List AI) := [
  [(0, .iload 1, []), (1, .istore 3, []), (2, .nop, [1])],
  [(2, .iload 3, []), (3, .ifCond .le 0, [2]), (6, .aload 0, []), (7, .iload 3, []), (8, .iconst 1, []), (9, .isub, []), (10, .aaload, []), (11, .iconst 26, []), (13, .laload, []), (14, .aload 2, []), (15, .iconst 26, []), (17, .laload, []), (18, .lcmp, []), (19, .ifCond .le 0, [2]), (22, .aload 0, []), (23, .iload 3, []), (24, .aload 0, []), (25, .iload 3, []), (26, .iconst 1, []), (27, .isub, []), (28, .aaload, []), (29, .aastore, []), (30, .iinc 3 (-1), []), (33, .goto 0, [1])],
  [(36, .aload 0, []), (37, .iload 3, []), (38, .aload 2, []), (39, .aastore, []), (40, .iload 1, []), (41, .iconst 1, []), (42, .iadd, []), (43, .ireturn, [])]]
abbrev m_Mo_inOrder : Nat := 176
noncomputable def bk_Mo_inOrder : List (List AI) := [
  [(0, .iconst 52, []), (2, .newarray .int, [0]), (4, .astore 1, []), (5, .iconst 52, []), (7, .newarray .int, [0]), (9, .astore 2, []), (10, .iconst 26, []), (12, .newarray .int, [0]), (14, .astore 3, []), (15, .iconst 0, []), (16, .istore 4, []), (18, .iconst 0, []), (19, .istore 5, []), (21, .nop, [1])],
  [(21, .iload 5, []), (23, .iconst 26, []), (25, .if_icmp .ge 0, [3]), (28, .aload 1, []), (29, .iload 5, []), (31, .aload 0, []), (32, .iload 5, []), (34, .iaload, []), (35, .iastore, []), (36, .aload 0, []), (37, .iload 5, []), (39, .iaload, []), (40, .ifCond .le 0, [2]), (43, .aload 3, []), (44, .iload 4, []), (46, .iload 5, []), (48, .iastore, []), (49, .iinc 4 1, []), (52, .nop, [2])],
  [(52, .iinc 5 1, []), (55, .goto 0, [1])],
  [(58, .iconst 26, []), (60, .istore 5, []), (62, .nop, [4])],
  [(62, .iload 4, []), (64, .iconst 1, []), (65, .if_icmp .le 0, [13]), (68, .iconst 1, []), (69, .istore 6, []), (71, .nop, [5])],
  [(71, .iload 6, []), (73, .iconst 1, []), (74, .iadd, []), (75, .iload 4, []), (77, .if_icmp .ge 0, [6]), (80, .aload 1, []), (81, .aload 3, []), (82, .iload 6, []), (84, .iconst 1, []), (85, .iadd, []), (86, .iaload, []), (87, .iaload, []), (88, .aload 1, []), (89, .aload 3, []), (90, .iload 6, []), (92, .iconst 1, []), (93, .isub, []), (94, .iaload, []), (95, .iaload, []), (96, .if_icmp .ge 0, [6]), (99, .iinc 6 1, []), (102, .goto 0, [5])],
  [(105, .aload 1, []), (106, .iload 5, []), (108, .aload 1, []), (109, .aload 3, []), (110, .iload 6, []), (112, .iconst 1, []), (113, .isub, []), (114, .iaload, []), (115, .iaload, []), (116, .aload 1, []), (117, .aload 3, []), (118, .iload 6, []), (120, .iaload, []), (121, .iaload, []), (122, .iadd, []), (123, .iastore, []), (124, .aload 2, []), (125, .aload 3, []), (126, .iload 6, []), (128, .iconst 1, []), (129, .isub, []), (130, .iaload, []), (131, .iload 5, []), (133, .iastore, []), (134, .aload 2, []), (135, .aload 3, []), (136, .iload 6, []), (138, .iaload, []), (139, .iload 5, []), (141, .iastore, []), (142, .iload 6, []), (144, .iconst 1, []), (145, .iadd, []), (146, .istore 7, []), (148, .nop, [7])],
  [(148, .iload 7, []), (150, .iload 4, []), (152, .if_icmp .ge 0, [8]), (155, .aload 3, []), (156, .iload 7, []), (158, .iconst 2, []), (159, .isub, []), (160, .aload 3, []), (161, .iload 7, []), (163, .iaload, []), (164, .iastore, []), (165, .iinc 7 1, []), (168, .goto 0, [7])],
  [(171, .iinc 4 (-2), []), (174, .iload 6, []), (176, .iconst 1, []), (177, .isub, []), (178, .istore 7, []), (180, .nop, [9])],
  [(180, .iload 7, []), (182, .ifCond .le 0, [10]), (185, .aload 1, []), (186, .aload 3, []), (187, .iload 7, []), (189, .iconst 1, []), (190, .isub, []), (191, .iaload, []), (192, .iaload, []), (193, .aload 1, []), (194, .iload 5, []), (196, .iaload, []), (197, .if_icmp .ge 0, [10]), (200, .iinc 7 (-1), []), (203, .goto 0, [9])],
  [(206, .iload 4, []), (208, .istore 8, []), (210, .nop, [11])],
  [(210, .iload 8, []), (212, .iload 7, []), (214, .if_icmp .le 0, [12]), (217, .aload 3, []), (218, .iload 8, []), (220, .aload 3, []), (221, .iload 8, []), (223, .iconst 1, []), (224, .isub, []), (225, .iaload, []), (226, .iastore, []), (227, .iinc 8 (-1), []), (230, .goto 0, [11])],
  [(233, .aload 3, []), (234, .iload 7, []), (236, .iload 5, []), (238, .iastore, []), (239, .iinc 4 1, []), (242, .iinc 5 1, []), (245, .goto 0, [4])],
  [(248, .iconst 26, []), (250, .newarray .int, [0]), (252, .astore 6, []), (254, .iconst 0, []), (255, .istore 7, []), (257, .nop, [14])],
  [(257, .iload 7, []), (259, .iconst 26, []), (261, .if_icmp .ge 0, [19]), (264, .aload 6, []), (266, .iload 7, []), (268, .aload 0, []), (269, .iload 7, []), (271, .iaload, []), (272, .ifCond .le 0, [15]), (275, .iconst 0, []), (276, .goto 0, [16])],
  [(279, .iconst (-1), []), (280, .nop, [16])],
  [(280, .iastore, []), (281, .aload 2, []), (282, .iload 7, []), (284, .iaload, []), (285, .istore 8, []), (287, .nop, [17])],
  [(287, .aload 0, []), (288, .iload 7, []), (290, .iaload, []), (291, .ifCond .le 0, [18]), (294, .iload 8, []), (296, .ifCond .le 0, [18]), (299, .aload 6, []), (301, .iload 7, []), (303, .dup2, []), (304, .iaload, []), (305, .iconst 1, []), (306, .iadd, []), (307, .iastore, []), (308, .aload 2, []), (309, .iload 8, []), (311, .iaload, []), (312, .istore 8, []), (314, .goto 0, [17])],
  [(317, .iinc 7 1, []), (320, .goto 0, [14])],
  [(323, .aload 6, []), (325, .areturn, [])]]
abbrev m_Mo_wordsOf : Nat := 177
noncomputable def bk_Mo_wordsOf : List (List AI) := [
  [(0, .ldc2_w 0, [0, 0]), (1, .lstore 3, []), (2, .iconst (-1), []), (3, .istore 5, []), (5, .iconst 0, []), (6, .istore 6, []), (8, .nop, [1])],
  [(8, .iload 6, []), (10, .iconst 52, []), (12, .if_icmp .gt 0, [7]), (15, .iconst 0, []), (16, .istore 7, []), (18, .nop, [2])],
  [(18, .iload 7, []), (20, .aload 0, []), (21, .arraylength, []), (22, .if_icmp .ge 0, [6]), (25, .aload 0, []), (26, .iload 7, []), (28, .iaload, []), (29, .iload 6, []), (31, .if_icmp .ne 0, [5]), (34, .iload 5, []), (36, .istore 8, []), (38, .nop, [3])],
  [(38, .iload 8, []), (40, .ifCond .lt 0, [4]), (43, .iload 8, []), (45, .iload 6, []), (47, .if_icmp .ge 0, [4]), (50, .lload 3, []), (51, .iload 1, []), (52, .i2l, []), (53, .lmul, []), (54, .lstore 3, []), (55, .iinc 8 1, []), (58, .goto 0, [3])],
  [(61, .aload 2, []), (62, .iload 7, []), (64, .lload 3, []), (65, .lastore, []), (66, .lload 3, []), (67, .ldc2_w 0, [1, 0]), (68, .ladd, []), (69, .lstore 3, []), (70, .iload 6, []), (72, .istore 5, []), (74, .nop, [5])],
  [(74, .iinc 7 1, []), (77, .goto 0, [2])],
  [(80, .iinc 6 1, []), (83, .goto 0, [1])],
  [(86, .aload 2, []), (87, .areturn, [])]]
abbrev m_Mo_wordsInOrder : Nat := 178
noncomputable def bk_Mo_wordsInOrder : List (List AI) := [
  [(0, .iconst 26, []), (2, .newarray .int, [3]), (4, .astore 1, []), (5, .ldc2_w 0, [0, 0]), (6, .lstore 2, []), (7, .iconst (-1), []), (8, .istore 4, []), (10, .iconst 0, []), (11, .istore 5, []), (13, .nop, [1])],
  [(13, .iload 5, []), (15, .iconst 26, []), (17, .if_icmp .ge 0, [7]), (20, .aload 0, []), (21, .iload 5, []), (23, .iaload, []), (24, .ifCond .lt 0, [6]), (27, .iload 4, []), (29, .istore 6, []), (31, .nop, [2])],
  [(31, .iload 6, []), (33, .ifCond .lt 0, [3]), (36, .iload 6, []), (38, .aload 0, []), (39, .iload 5, []), (41, .iaload, []), (42, .if_icmp .ge 0, [3]), (45, .lload 2, []), (46, .ldc2_w 0, [2, 0]), (49, .lmul, []), (50, .lstore 2, []), (51, .iinc 6 1, []), (54, .goto 0, [2])],
  [(57, .aload 0, []), (58, .iload 5, []), (60, .iaload, []), (61, .istore 6, []), (63, .nop, [4])],
  [(63, .iload 6, []), (65, .iload 4, []), (67, .if_icmp .ge 0, [5]), (70, .lload 2, []), (71, .ldc2_w 0, [2, 0]), (74, .ldiv, []), (75, .lstore 2, []), (76, .iinc 6 1, []), (79, .goto 0, [4])],
  [(82, .aload 1, []), (83, .iload 5, []), (85, .lload 2, []), (86, .lastore, []), (87, .lload 2, []), (88, .ldc2_w 0, [1, 0]), (89, .ladd, []), (90, .lstore 2, []), (91, .aload 0, []), (92, .iload 5, []), (94, .iaload, []), (95, .istore 4, []), (97, .nop, [6])],
  [(97, .iinc 5 1, []), (100, .goto 0, [1])],
  [(103, .aload 1, []), (104, .areturn, [])]]
abbrev m_Mo_digit : Nat := 179
noncomputable def bk_Mo_digit : List (List AI) := [
  [(0, .lload 0, []), (1, .lstore 5, []), (3, .iload 2, []), (4, .iconst 1, []), (5, .isub, []), (6, .istore 7, []), (8, .nop, [1])],
  [(8, .iload 7, []), (10, .iload 3, []), (11, .if_icmp .le 0, [2]), (14, .lload 5, []), (16, .iload 4, []), (18, .i2l, []), (19, .ldiv, []), (20, .lstore 5, []), (22, .iinc 7 (-1), []), (25, .goto 0, [1])],
  [(28, .lload 5, []), (30, .iload 4, []), (32, .i2l, []), (33, .lrem, []), (34, .l2i, []), (35, .ireturn, [])]]
abbrev m_Mo_comes : Nat := 180
noncomputable def bk_Mo_comes : List (List AI) := [
  [(0, .aload 0, []), (1, .getfield 0, [6, 3]), (4, .aload 0, []), (5, .getfield 0, [6, 6]), (8, .iload 1, []), (9, .castore, []), (10, .aload 0, []), (11, .getfield 0, [6, 4]), (14, .aload 0, []), (15, .getfield 0, [6, 6]), (18, .aload 2, []), (19, .aastore, []), (20, .aload 0, []), (21, .getfield 0, [6, 5]), (24, .aload 0, []), (25, .getfield 0, [6, 6]), (28, .iload 1, []), (29, .iconst 111, []), (31, .if_icmp .ne 0, [1]), (34, .aload 2, []), (35, .invokestatic 0, [178, 1]), (38, .goto 0, [4])],
  [(41, .aload 2, []), (42, .iload 1, []), (43, .iconst 116, []), (45, .if_icmp .ne 0, [2]), (48, .iconst 3, []), (49, .goto 0, [3])],
  [(52, .iconst 2, []), (53, .nop, [3])],
  [(53, .aload 2, []), (54, .arraylength, []), (55, .newarray .int, [3]), (57, .invokestatic 0, [177, 3]), (60, .nop, [4])],
  [(60, .aastore, []), (61, .aload 0, []), (62, .dup, []), (63, .getfield 0, [6, 6]), (66, .iconst 1, []), (67, .iadd, []), (68, .putfield 0, [6, 6, 0]), (71, .aload 0, []), (72, .getfield 0, [6, 6]), (75, .iconst 1, []), (76, .isub, []), (77, .ireturn, [])]]
abbrev m_Mo_least : Nat := 181
noncomputable def bk_Mo_least : List (List AI) := [
  [(0, .aload 0, []), (1, .aload 0, []), (2, .getfield 0, [6, 0]), (5, .invokestatic 0, [168, 1]), (8, .ifCond .le 0, [1]), (11, .iconst 1, []), (12, .goto 0, [2])],
  [(15, .iconst 0, []), (16, .nop, [2])],
  [(16, .iconst 1, []), (17, .invokevirtual 0, [157, 3, 6]), (20, .ifCond .ne 0, [5]), (23, .aload 0, []), (24, .aload 0, []), (25, .getfield 0, [6, 6]), (28, .iconst 12, []), (30, .if_icmp .ge 0, [3]), (33, .iconst 1, []), (34, .goto 0, [4])],
  [(37, .iconst 0, []), (38, .nop, [4])],
  [(38, .iconst 2, []), (39, .invokevirtual 0, [157, 3, 6]), (42, .ifCond .eq 0, [6]), (45, .nop, [5])],
  [(45, .iconst 0, []), (46, .goto 0, [7])],
  [(49, .aload 0, []), (50, .iconst 104, []), (52, .aload 0, []), (53, .aload 0, []), (54, .getfield 0, [6, 0]), (57, .iconst 2, []), (58, .iconst 26, []), (60, .newarray .int, [0]), (62, .invokevirtual 0, [172, 4, 6]), (65, .invokevirtual 0, [180, 3, 6]), (68, .nop, [7])],
  [(68, .ireturn, [])]]
abbrev m_Mo_isRoom : Nat := 182
noncomputable def bk_Mo_isRoom : List (List AI) := [
  [(0, .iload 1, []), (1, .iconst 5, []), (2, .if_icmp .ge 0, [1]), (5, .iload 0, []), (6, .iconst 1, []), (7, .iload 1, []), (8, .ishl, []), (9, .if_icmp .gt 0, [2]), (12, .nop, [1])],
  [(12, .iconst 1, []), (13, .goto 0, [3])],
  [(16, .iconst 0, []), (17, .nop, [3])],
  [(17, .ireturn, [2])]]
abbrev m_Mo_bounded : Nat := 183
noncomputable def bk_Mo_bounded : List (List AI) := [
  [(0, .aload 0, []), (1, .iload 1, []), (2, .iconst 1, []), (3, .iconst 25, []), (5, .invokestatic 0, [158, 3]), (8, .iconst 1, []), (9, .invokevirtual 0, [157, 3, 6]), (12, .ifCond .ne 0, [5]), (15, .aload 0, []), (16, .aload 0, []), (17, .getfield 0, [6, 0]), (20, .invokestatic 0, [168, 1]), (23, .ifCond .le 0, [1]), (26, .iconst 1, []), (27, .goto 0, [2])],
  [(30, .iconst 0, []), (31, .nop, [2])],
  [(31, .iconst 2, []), (32, .invokevirtual 0, [157, 3, 6]), (35, .ifCond .ne 0, [5]), (38, .aload 0, []), (39, .aload 0, []), (40, .getfield 0, [6, 0]), (43, .invokestatic 0, [168, 1]), (46, .iload 1, []), (47, .invokestatic 0, [182, 2]), (50, .iconst 3, []), (51, .invokevirtual 0, [157, 3, 6]), (54, .ifCond .ne 0, [5]), (57, .aload 0, []), (58, .aload 0, []), (59, .getfield 0, [6, 6]), (62, .iconst 12, []), (64, .if_icmp .ge 0, [3]), (67, .iconst 1, []), (68, .goto 0, [4])],
  [(71, .iconst 0, []), (72, .nop, [4])],
  [(72, .iconst 4, []), (73, .invokevirtual 0, [157, 3, 6]), (76, .ifCond .eq 0, [6]), (79, .nop, [5])],
  [(79, .iconst 0, []), (80, .ireturn, [])],
  [(81, .aload 0, []), (82, .iconst 98, []), (84, .aload 0, []), (85, .aload 0, []), (86, .getfield 0, [6, 0]), (89, .iload 1, []), (90, .iconst 26, []), (92, .newarray .int, [0]), (94, .invokevirtual 0, [174, 4, 6]), (97, .invokevirtual 0, [180, 3, 6]), (100, .ireturn, [])]]
abbrev m_Mo_ordered : Nat := 184
noncomputable def bk_Mo_ordered : List (List AI) := [
  [(0, .aload 0, []), (1, .aload 0, []), (2, .getfield 0, [6, 0]), (5, .invokestatic 0, [168, 1]), (8, .ifCond .le 0, [1]), (11, .iconst 1, []), (12, .goto 0, [2])],
  [(15, .iconst 0, []), (16, .nop, [2])],
  [(16, .iconst 1, []), (17, .invokevirtual 0, [157, 3, 6]), (20, .ifCond .ne 0, [5]), (23, .aload 0, []), (24, .aload 0, []), (25, .getfield 0, [6, 6]), (28, .iconst 12, []), (30, .if_icmp .ge 0, [3]), (33, .iconst 1, []), (34, .goto 0, [4])],
  [(37, .iconst 0, []), (38, .nop, [4])],
  [(38, .iconst 2, []), (39, .invokevirtual 0, [157, 3, 6]), (42, .ifCond .eq 0, [6]), (45, .nop, [5])],
  [(45, .iconst 0, []), (46, .goto 0, [7])],
  [(49, .aload 0, []), (50, .iconst 111, []), (52, .aload 0, []), (53, .getfield 0, [6, 0]), (56, .invokestatic 0, [176, 1]), (59, .invokevirtual 0, [180, 3, 6]), (62, .nop, [7])],
  [(62, .ireturn, [])]]
abbrev m_Mo_triple : Nat := 185
noncomputable def bk_Mo_triple : List (List AI) := [
  [(0, .aload 0, []), (1, .aload 0, []), (2, .getfield 0, [6, 0]), (5, .invokestatic 0, [168, 1]), (8, .ifCond .le 0, [1]), (11, .iconst 1, []), (12, .goto 0, [2])],
  [(15, .iconst 0, []), (16, .nop, [2])],
  [(16, .iconst 1, []), (17, .invokevirtual 0, [157, 3, 6]), (20, .ifCond .ne 0, [5]), (23, .aload 0, []), (24, .aload 0, []), (25, .getfield 0, [6, 6]), (28, .iconst 12, []), (30, .if_icmp .ge 0, [3]), (33, .iconst 1, []), (34, .goto 0, [4])],
  [(37, .iconst 0, []), (38, .nop, [4])],
  [(38, .iconst 2, []), (39, .invokevirtual 0, [157, 3, 6]), (42, .ifCond .eq 0, [6]), (45, .nop, [5])],
  [(45, .iconst 0, []), (46, .goto 0, [7])],
  [(49, .aload 0, []), (50, .iconst 116, []), (52, .aload 0, []), (53, .aload 0, []), (54, .getfield 0, [6, 0]), (57, .iconst 3, []), (58, .iconst 26, []), (60, .newarray .int, [0]), (62, .invokevirtual 0, [172, 4, 6]), (65, .invokevirtual 0, [180, 3, 6]), (68, .nop, [7])],
  [(68, .ireturn, [])]]
abbrev m_Mo_sumOf : Nat := 186
noncomputable def bk_Mo_sumOf : List (List AI) := [
  [(0, .ldc2_w 0, [0, 0]), (1, .lstore 3, []), (2, .aload 0, []), (3, .astore 5, []), (5, .aload 5, []), (7, .arraylength, []), (8, .istore 6, []), (10, .iconst 0, []), (11, .istore 7, []), (13, .nop, [1])],
  [(13, .iload 7, []), (15, .iload 6, []), (17, .if_icmp .ge 0, [6]), (20, .aload 5, []), (22, .iload 7, []), (24, .iaload, []), (25, .istore 8, []), (27, .iload 8, []), (29, .ifCond .ge 0, [2]), (32, .ldc2_w 0, [0, 0]), (33, .goto 0, [3])],
  [(36, .ldc2_w 0, [1, 0]), (37, .nop, [3])],
  [(37, .lstore 9, []), (39, .iload 8, []), (41, .istore 11, []), (43, .nop, [4])],
  [(43, .iload 11, []), (45, .iconst 25, []), (47, .if_icmp .ge 0, [5]), (50, .iload 8, []), (52, .ifCond .lt 0, [5]), (55, .lload 9, []), (57, .lload 1, []), (58, .lmul, []), (59, .lstore 9, []), (61, .iinc 11 1, []), (64, .goto 0, [4])],
  [(67, .lload 3, []), (68, .lload 9, []), (70, .ladd, []), (71, .lstore 3, []), (72, .iinc 7 1, []), (75, .goto 0, [1])],
  [(78, .lload 3, []), (79, .lreturn, [])]]
abbrev m_Mo_byLengths : Nat := 187
noncomputable def bk_Mo_byLengths : List (List AI) := [
  [(0, .aload 0, []), (1, .aload 0, []), (2, .getfield 0, [6, 2]), (5, .iconst 26, []), (7, .if_icmp .gt 0, [1]), (10, .iconst 1, []), (11, .goto 0, [2])],
  [(14, .iconst 0, []), (15, .nop, [2])],
  [(15, .iconst 1, []), (16, .invokevirtual 0, [157, 3, 6]), (19, .ifCond .eq 0, [3]), (22, .iconst 0, []), (23, .ireturn, [])],
  [(24, .iconst 26, []), (26, .newarray .int, [0]), (28, .astore 1, []), (29, .iconst 0, []), (30, .istore 2, []), (31, .iconst 0, []), (32, .istore 3, []), (33, .nop, [4])],
  [(33, .iload 3, []), (34, .iconst 26, []), (36, .if_icmp .ge 0, [9]), (39, .aload 1, []), (40, .iload 3, []), (41, .iload 3, []), (42, .aload 0, []), (43, .getfield 0, [6, 2]), (46, .if_icmp .ge 0, [5]), (49, .aload 0, []), (50, .getfield 0, [6, 1]), (53, .iload 3, []), (54, .iaload, []), (55, .ifCond .le 0, [5]), (58, .aload 0, []), (59, .getfield 0, [6, 1]), (62, .iload 3, []), (63, .iaload, []), (64, .goto 0, [6])],
  [(67, .iconst (-1), []), (68, .nop, [6])],
  [(68, .iastore, []), (69, .iload 2, []), (70, .aload 1, []), (71, .iload 3, []), (72, .iaload, []), (73, .ifCond .le 0, [7]), (76, .iconst 1, []), (77, .goto 0, [8])],
  [(80, .iconst 0, []), (81, .nop, [8])],
  [(81, .iadd, []), (82, .istore 2, []), (83, .iinc 3 1, []), (86, .goto 0, [4])],
  [(89, .aload 0, []), (90, .iload 2, []), (91, .ifCond .le 0, [10]), (94, .iconst 1, []), (95, .goto 0, [11])],
  [(98, .iconst 0, []), (99, .nop, [11])],
  [(99, .iconst 2, []), (100, .invokevirtual 0, [157, 3, 6]), (103, .ifCond .ne 0, [16]), (106, .aload 0, []), (107, .aload 1, []), (108, .ldc2_w 0, [2, 0]), (111, .invokestatic 0, [186, 2]), (114, .ldc2_w 0, [33554432, 0]), (117, .lcmp, []), (118, .ifCond .gt 0, [12]), (121, .iconst 1, []), (122, .goto 0, [13])],
  [(125, .iconst 0, []), (126, .nop, [13])],
  [(126, .iconst 3, []), (127, .invokevirtual 0, [157, 3, 6]), (130, .ifCond .ne 0, [16]), (133, .aload 0, []), (134, .aload 0, []), (135, .getfield 0, [6, 6]), (138, .iconst 12, []), (140, .if_icmp .ge 0, [14]), (143, .iconst 1, []), (144, .goto 0, [15])],
  [(147, .iconst 0, []), (148, .nop, [15])],
  [(148, .iconst 4, []), (149, .invokevirtual 0, [157, 3, 6]), (152, .ifCond .eq 0, [17]), (155, .nop, [16])],
  [(155, .iconst 0, []), (156, .ireturn, [])],
  [(157, .aload 0, []), (158, .iconst 107, []), (160, .aload 1, []), (161, .invokevirtual 0, [180, 3, 6]), (164, .ireturn, [])]]
abbrev m_Mo_forget : Nat := 188
noncomputable def bk_Mo_forget : List (List AI) := [
  [(0, .aload 0, []), (1, .iconst 0, []), (2, .putfield 0, [6, 10, 0]), (5, .aload 0, []), (6, .getfield 0, [6, 6]), (9, .istore 1, []), (10, .aload 0, []), (11, .iconst 0, []), (12, .putfield 0, [6, 6, 0]), (15, .iload 1, []), (16, .ireturn, [])]]
abbrev m_Mo_codes : Nat := 189
noncomputable def bk_Mo_codes : List (List AI) := [
  [(0, .aload 0, []), (1, .iconst 0, []), (2, .putfield 0, [6, 10, 0]), (5, .aload 0, []), (6, .getfield 0, [6, 6]), (9, .ireturn, [])]]
abbrev m_Mo_kindOf : Nat := 190
noncomputable def bk_Mo_kindOf : List (List AI) := [
  [(0, .aload 0, []), (1, .aload 0, []), (2, .iload 1, []), (3, .invokevirtual 0, [160, 2, 6]), (6, .iconst 1, []), (7, .invokevirtual 0, [157, 3, 6]), (10, .ifCond .eq 0, [1]), (13, .iconst 104, []), (15, .goto 0, [2])],
  [(18, .aload 0, []), (19, .getfield 0, [6, 3]), (22, .iload 1, []), (23, .caload, []), (24, .nop, [2])],
  [(24, .ireturn, [1])]]
abbrev m_Mo_signs : Nat := 191
noncomputable def bk_Mo_signs : List (List AI) := [
  [(0, .aload 0, []), (1, .aload 0, []), (2, .iload 1, []), (3, .invokevirtual 0, [160, 2, 6]), (6, .iconst 1, []), (7, .invokevirtual 0, [157, 3, 6]), (10, .ifCond .eq 0, [1]), (13, .iconst 0, []), (14, .ireturn, [])],
  [(15, .iconst 0, []), (16, .istore 2, []), (17, .aload 0, []), (18, .getfield 0, [6, 4]), (21, .iload 1, []), (22, .aaload, []), (23, .astore 3, []), (24, .aload 3, []), (25, .arraylength, []), (26, .istore 4, []), (28, .iconst 0, []), (29, .istore 5, []), (31, .nop, [2])],
  [(31, .iload 5, []), (33, .iload 4, []), (35, .if_icmp .ge 0, [5]), (38, .aload 3, []), (39, .iload 5, []), (41, .iaload, []), (42, .istore 6, []), (44, .iload 2, []), (45, .iload 6, []), (47, .ifCond .lt 0, [3]), (50, .iconst 1, []), (51, .goto 0, [4])],
  [(54, .iconst 0, []), (55, .nop, [4])],
  [(55, .iadd, []), (56, .istore 2, []), (57, .iinc 5 1, []), (60, .goto 0, [2])],
  [(63, .iload 2, []), (64, .ireturn, [])]]
abbrev m_Mo_baseOf : Nat := 192
noncomputable def bk_Mo_baseOf : List (List AI) := [
  [(0, .aload 0, []), (1, .getfield 0, [6, 3]), (4, .iload 1, []), (5, .caload, []), (6, .iconst 116, []), (8, .if_icmp .ne 0, [1]), (11, .iconst 3, []), (12, .goto 0, [2])],
  [(15, .iconst 2, []), (16, .nop, [2])],
  [(16, .ireturn, [])]]
abbrev m_Mo_isAhead : Nat := 193
noncomputable def bk_Mo_isAhead : List (List AI) := [
  [(0, .iconst 0, []), (1, .istore 4, []), (3, .nop, [1])],
  [(3, .iload 4, []), (5, .aload 0, []), (6, .getfield 0, [6, 4]), (9, .iload 1, []), (10, .aaload, []), (11, .iload 2, []), (12, .iaload, []), (13, .if_icmp .ge 0, [5]), (16, .iload 4, []), (18, .aload 0, []), (19, .getfield 0, [6, 4]), (22, .iload 1, []), (23, .aaload, []), (24, .iload 3, []), (25, .iaload, []), (26, .if_icmp .ge 0, [5]), (29, .aload 0, []), (30, .getfield 0, [6, 5]), (33, .iload 1, []), (34, .aaload, []), (35, .iload 2, []), (36, .laload, []), (37, .aload 0, []), (38, .getfield 0, [6, 4]), (41, .iload 1, []), (42, .aaload, []), (43, .iload 2, []), (44, .iaload, []), (45, .iload 4, []), (47, .aload 0, []), (48, .iload 1, []), (49, .invokevirtual 0, [192, 2, 6]), (52, .invokestatic 0, [179, 4]), (55, .istore 5, []), (57, .aload 0, []), (58, .getfield 0, [6, 5]), (61, .iload 1, []), (62, .aaload, []), (63, .iload 3, []), (64, .laload, []), (65, .aload 0, []), (66, .getfield 0, [6, 4]), (69, .iload 1, []), (70, .aaload, []), (71, .iload 3, []), (72, .iaload, []), (73, .iload 4, []), (75, .aload 0, []), (76, .iload 1, []), (77, .invokevirtual 0, [192, 2, 6]), (80, .invokestatic 0, [179, 4]), (83, .istore 6, []), (85, .iload 5, []), (87, .iload 6, []), (89, .if_icmp .eq 0, [4]), (92, .iload 5, []), (94, .iload 6, []), (96, .if_icmp .ge 0, [2]), (99, .iconst 1, []), (100, .goto 0, [3])],
  [(103, .iconst 0, []), (104, .nop, [3])],
  [(104, .ireturn, [2])],
  [(105, .iinc 4 1, []), (108, .goto 0, [1])],
  [(111, .aload 0, []), (112, .getfield 0, [6, 4]), (115, .iload 1, []), (116, .aaload, []), (117, .iload 2, []), (118, .iaload, []), (119, .aload 0, []), (120, .getfield 0, [6, 4]), (123, .iload 1, []), (124, .aaload, []), (125, .iload 3, []), (126, .iaload, []), (127, .if_icmp .ge 0, [6]), (130, .iconst 1, []), (131, .goto 0, [7])],
  [(134, .iconst 0, []), (135, .nop, [7])],
  [(135, .ireturn, [2])]]
abbrev m_Mo_signAt : Nat := 194
noncomputable def bk_Mo_signAt : List (List AI) := [
  [(0, .iconst (-1), []), (1, .istore 3, []), (2, .iconst 0, []), (3, .istore 4, []), (5, .nop, [1])],
  [(5, .iload 4, []), (7, .iconst 26, []), (9, .if_icmp .ge 0, [8]), (12, .aload 0, []), (13, .iload 1, []), (14, .invokevirtual 0, [160, 2, 6]), (17, .ifCond .eq 0, [8]), (20, .iconst 0, []), (21, .istore 5, []), (23, .iconst 0, []), (24, .istore 6, []), (26, .nop, [2])],
  [(26, .iload 6, []), (28, .iconst 26, []), (30, .if_icmp .ge 0, [5]), (33, .iload 5, []), (35, .iload 6, []), (37, .iload 4, []), (39, .if_icmp .eq 0, [3]), (42, .aload 0, []), (43, .getfield 0, [6, 4]), (46, .iload 1, []), (47, .aaload, []), (48, .iload 4, []), (50, .iaload, []), (51, .ifCond .lt 0, [3]), (54, .aload 0, []), (55, .getfield 0, [6, 4]), (58, .iload 1, []), (59, .aaload, []), (60, .iload 6, []), (62, .iaload, []), (63, .ifCond .lt 0, [3]), (66, .aload 0, []), (67, .iload 1, []), (68, .iload 6, []), (70, .iload 4, []), (72, .invokevirtual 0, [193, 4, 6]), (75, .ifCond .eq 0, [3]), (78, .iconst 1, []), (79, .goto 0, [4])],
  [(82, .iconst 0, []), (83, .nop, [4])],
  [(83, .iadd, []), (84, .istore 5, []), (86, .iinc 6 1, []), (89, .goto 0, [2])],
  [(92, .aload 0, []), (93, .getfield 0, [6, 4]), (96, .iload 1, []), (97, .aaload, []), (98, .iload 4, []), (100, .iaload, []), (101, .ifCond .lt 0, [6]), (104, .iload 5, []), (106, .iload 2, []), (107, .if_icmp .ne 0, [6]), (110, .iload 4, []), (112, .goto 0, [7])],
  [(115, .iload 3, []), (116, .nop, [7])],
  [(116, .istore 3, []), (117, .iinc 4 1, []), (120, .goto 0, [1])],
  [(123, .aload 0, []), (124, .iload 3, []), (125, .ifCond .lt 0, [9]), (128, .iconst 1, []), (129, .goto 0, [10])],
  [(132, .iconst 0, []), (133, .nop, [10])],
  [(133, .iconst 1, []), (134, .invokevirtual 0, [157, 3, 6]), (137, .ifCond .eq 0, [11]), (140, .iconst 97, []), (142, .goto 0, [12])],
  [(145, .iconst 97, []), (147, .iload 3, []), (148, .iadd, []), (149, .i2c, []), (150, .nop, [12])],
  [(150, .ireturn, [1])]]
abbrev m_Mo_lacks : Nat := 195
noncomputable def bk_Mo_lacks : List (List AI) := [
  [(0, .aload 0, []), (1, .aload 0, []), (2, .iload 1, []), (3, .invokevirtual 0, [160, 2, 6]), (6, .iconst 1, []), (7, .invokevirtual 0, [157, 3, 6]), (10, .ifCond .ne 0, [3]), (13, .aload 0, []), (14, .iload 2, []), (15, .invokestatic 0, [159, 1]), (18, .iconst 2, []), (19, .invokevirtual 0, [157, 3, 6]), (22, .ifCond .ne 0, [3]), (25, .aload 0, []), (26, .aload 0, []), (27, .getfield 0, [6, 4]), (30, .iload 1, []), (31, .aaload, []), (32, .iload 2, []), (33, .iconst 97, []), (35, .isub, []), (36, .iaload, []), (37, .ifCond .lt 0, [1]), (40, .iconst 1, []), (41, .goto 0, [2])],
  [(44, .iconst 0, []), (45, .nop, [2])],
  [(45, .iconst 3, []), (46, .invokevirtual 0, [157, 3, 6]), (49, .ifCond .eq 0, [4]), (52, .nop, [3])],
  [(52, .iconst 1, []), (53, .goto 0, [5])],
  [(56, .iconst 0, []), (57, .nop, [5])],
  [(57, .ireturn, [2])]]
abbrev m_Mo_wordLength : Nat := 196
noncomputable def bk_Mo_wordLength : List (List AI) := [
  [(0, .aload 0, []), (1, .iload 1, []), (2, .iload 2, []), (3, .invokevirtual 0, [195, 3, 6]), (6, .ifCond .eq 0, [1]), (9, .iconst 0, []), (10, .goto 0, [2])],
  [(13, .aload 0, []), (14, .getfield 0, [6, 4]), (17, .iload 1, []), (18, .aaload, []), (19, .iload 2, []), (20, .iconst 97, []), (22, .isub, []), (23, .iaload, []), (24, .nop, [2])],
  [(24, .ireturn, [])]]
abbrev m_Mo_wordBit : Nat := 197
noncomputable def bk_Mo_wordBit : List (List AI) := [
  [(0, .aload 0, []), (1, .iload 1, []), (2, .iload 2, []), (3, .invokevirtual 0, [195, 3, 6]), (6, .ifCond .ne 0, [1]), (9, .aload 0, []), (10, .iload 3, []), (11, .iconst 0, []), (12, .aload 0, []), (13, .getfield 0, [6, 4]), (16, .iload 1, []), (17, .aaload, []), (18, .iload 2, []), (19, .iconst 97, []), (21, .isub, []), (22, .iaload, []), (23, .iconst 1, []), (24, .isub, []), (25, .invokestatic 0, [158, 3]), (28, .iconst 3, []), (29, .invokevirtual 0, [157, 3, 6]), (32, .ifCond .eq 0, [2]), (35, .nop, [1])],
  [(35, .iconst 48, []), (37, .ireturn, [1])],
  [(38, .iconst 48, []), (40, .aload 0, []), (41, .getfield 0, [6, 5]), (44, .iload 1, []), (45, .aaload, []), (46, .iload 2, []), (47, .iconst 97, []), (49, .isub, []), (50, .laload, []), (51, .aload 0, []), (52, .getfield 0, [6, 4]), (55, .iload 1, []), (56, .aaload, []), (57, .iload 2, []), (58, .iconst 97, []), (60, .isub, []), (61, .iaload, []), (62, .iload 3, []), (63, .aload 0, []), (64, .iload 1, []), (65, .invokevirtual 0, [192, 2, 6]), (68, .invokestatic 0, [179, 4]), (71, .iadd, []), (72, .i2c, []), (73, .ireturn, [1])]]
abbrev m_Mo_longest : Nat := 198
noncomputable def bk_Mo_longest : List (List AI) := [
  [(0, .aload 0, []), (1, .aload 0, []), (2, .iload 1, []), (3, .invokevirtual 0, [160, 2, 6]), (6, .iconst 1, []), (7, .invokevirtual 0, [157, 3, 6]), (10, .ifCond .eq 0, [1]), (13, .iconst 0, []), (14, .ireturn, [])],
  [(15, .iconst 0, []), (16, .istore 2, []), (17, .aload 0, []), (18, .getfield 0, [6, 4]), (21, .iload 1, []), (22, .aaload, []), (23, .astore 3, []), (24, .aload 3, []), (25, .arraylength, []), (26, .istore 4, []), (28, .iconst 0, []), (29, .istore 5, []), (31, .nop, [2])],
  [(31, .iload 5, []), (33, .iload 4, []), (35, .if_icmp .ge 0, [5]), (38, .aload 3, []), (39, .iload 5, []), (41, .iaload, []), (42, .istore 6, []), (44, .iload 6, []), (46, .iload 2, []), (47, .if_icmp .le 0, [3]), (50, .iload 6, []), (52, .goto 0, [4])],
  [(55, .iload 2, []), (56, .nop, [4])],
  [(56, .istore 2, []), (57, .iinc 5 1, []), (60, .goto 0, [2])],
  [(63, .iload 2, []), (64, .ireturn, [])]]
abbrev m_Mo_hasAll : Nat := 199
noncomputable def bk_Mo_hasAll : List (List AI) := [
  [(0, .iconst 1, []), (1, .istore 2, []), (2, .iconst 0, []), (3, .istore 3, []), (4, .nop, [1])],
  [(4, .iload 3, []), (5, .iconst 26, []), (7, .if_icmp .ge 0, [5]), (10, .iload 2, []), (11, .ifCond .eq 0, [3]), (14, .aload 0, []), (15, .getfield 0, [6, 0]), (18, .iload 3, []), (19, .iaload, []), (20, .ifCond .eq 0, [2]), (23, .aload 0, []), (24, .getfield 0, [6, 4]), (27, .iload 1, []), (28, .aaload, []), (29, .iload 3, []), (30, .iaload, []), (31, .ifCond .lt 0, [3]), (34, .nop, [2])],
  [(34, .iconst 1, []), (35, .goto 0, [4])],
  [(38, .iconst 0, []), (39, .nop, [4])],
  [(39, .istore 2, []), (40, .iinc 3 1, []), (43, .goto 0, [1])],
  [(46, .iload 2, []), (47, .ireturn, [2])]]
abbrev m_Mo_bits : Nat := 200
noncomputable def bk_Mo_bits : List (List AI) := [
  [(0, .aload 0, []), (1, .aload 0, []), (2, .iload 1, []), (3, .invokevirtual 0, [160, 2, 6]), (6, .iconst 1, []), (7, .invokevirtual 0, [157, 3, 6]), (10, .ifCond .ne 0, [1]), (13, .aload 0, []), (14, .aload 0, []), (15, .iload 1, []), (16, .invokevirtual 0, [199, 2, 6]), (19, .iconst 2, []), (20, .invokevirtual 0, [157, 3, 6]), (23, .ifCond .eq 0, [2]), (26, .nop, [1])],
  [(26, .iconst 0, []), (27, .goto 0, [3])],
  [(30, .aload 0, []), (31, .getfield 0, [6, 0]), (34, .aload 0, []), (35, .getfield 0, [6, 4]), (38, .iload 1, []), (39, .aaload, []), (40, .invokestatic 0, [173, 2]), (43, .nop, [3])],
  [(43, .ireturn, [])]]
abbrev m_Mo_sum : Nat := 201
noncomputable def bk_Mo_sum : List (List AI) := [
  [(0, .aload 0, []), (1, .aload 0, []), (2, .iload 1, []), (3, .invokevirtual 0, [160, 2, 6]), (6, .iconst 1, []), (7, .invokevirtual 0, [157, 3, 6]), (10, .ifCond .eq 0, [1]), (13, .ldc2_w 0, [0, 0]), (14, .goto 0, [2])],
  [(17, .aload 0, []), (18, .getfield 0, [6, 4]), (21, .iload 1, []), (22, .aaload, []), (23, .aload 0, []), (24, .iload 1, []), (25, .invokevirtual 0, [192, 2, 6]), (28, .i2l, []), (29, .invokestatic 0, [186, 2]), (32, .nop, [2])],
  [(32, .lreturn, [])]]
abbrev m_Mo_lookup : Nat := 202
noncomputable def bk_Mo_lookup : List (List AI) := [
  [(0, .aload 0, []), (1, .aload 0, []), (2, .iload 1, []), (3, .invokevirtual 0, [160, 2, 6]), (6, .iconst 1, []), (7, .invokevirtual 0, [157, 3, 6]), (10, .ifCond .ne 0, [7]), (13, .aload 0, []), (14, .iload 2, []), (15, .iconst 1, []), (16, .iconst 8, []), (18, .invokestatic 0, [158, 3]), (21, .ifCond .eq 0, [3]), (24, .iload 3, []), (25, .iconst 0, []), (26, .iconst 1, []), (27, .iload 2, []), (28, .iconst 1, []), (29, .iconst 8, []), (31, .invokestatic 0, [158, 3]), (34, .ifCond .eq 0, [1]), (37, .iload 2, []), (38, .goto 0, [2])],
  [(41, .iconst 1, []), (42, .nop, [2])],
  [(42, .ishl, []), (43, .iconst 1, []), (44, .isub, []), (45, .invokestatic 0, [158, 3]), (48, .ifCond .eq 0, [3]), (51, .iconst 1, []), (52, .goto 0, [4])],
  [(55, .iconst 0, []), (56, .nop, [4])],
  [(56, .iconst 2, []), (57, .invokevirtual 0, [157, 3, 6]), (60, .ifCond .ne 0, [7]), (63, .aload 0, []), (64, .aload 0, []), (65, .getfield 0, [6, 3]), (68, .iload 1, []), (69, .caload, []), (70, .iconst 116, []), (72, .if_icmp .eq 0, [5]), (75, .iconst 1, []), (76, .goto 0, [6])],
  [(79, .iconst 0, []), (80, .nop, [6])],
  [(80, .iconst 3, []), (81, .invokevirtual 0, [157, 3, 6]), (84, .ifCond .eq 0, [8]), (87, .nop, [7])],
  [(87, .iconst 0, []), (88, .ireturn, [])],
  [(89, .iconst (-2), []), (91, .istore 4, []), (93, .iconst 0, []), (94, .istore 5, []), (96, .nop, [9])],
  [(96, .iload 5, []), (98, .iconst 26, []), (100, .if_icmp .ge 0, [19]), (103, .aload 0, []), (104, .getfield 0, [6, 4]), (107, .iload 1, []), (108, .aaload, []), (109, .iload 5, []), (111, .iaload, []), (112, .istore 6, []), (114, .iload 6, []), (116, .ifCond .lt 0, [10]), (119, .iconst 1, []), (120, .goto 0, [11])],
  [(123, .iconst 0, []), (124, .nop, [11])],
  [(124, .istore 7, []), (126, .iconst 0, []), (127, .istore 8, []), (129, .nop, [12])],
  [(129, .iload 8, []), (131, .iload 6, []), (133, .if_icmp .ge 0, [15]), (136, .iload 8, []), (138, .iload 2, []), (139, .if_icmp .ge 0, [15]), (142, .iload 7, []), (144, .ifCond .eq 0, [13]), (147, .aload 0, []), (148, .getfield 0, [6, 5]), (151, .iload 1, []), (152, .aaload, []), (153, .iload 5, []), (155, .laload, []), (156, .iload 6, []), (158, .iload 8, []), (160, .iconst 2, []), (161, .invokestatic 0, [179, 4]), (164, .iload 3, []), (165, .iload 2, []), (166, .iconst 1, []), (167, .isub, []), (168, .iload 8, []), (170, .isub, []), (171, .ishr, []), (172, .iconst 1, []), (173, .iand, []), (174, .if_icmp .ne 0, [13]), (177, .iconst 1, []), (178, .goto 0, [14])],
  [(181, .iconst 0, []), (182, .nop, [14])],
  [(182, .istore 7, []), (184, .iinc 8 1, []), (187, .goto 0, [12])],
  [(190, .iload 7, []), (192, .ifCond .eq 0, [16]), (195, .iload 6, []), (197, .iload 2, []), (198, .if_icmp .gt 0, [16]), (201, .iload 5, []), (203, .ireturn, [])],
  [(204, .iload 7, []), (206, .ifCond .eq 0, [17]), (209, .iconst (-1), []), (210, .goto 0, [18])],
  [(213, .iload 4, []), (215, .nop, [18])],
  [(215, .istore 4, []), (217, .iinc 5 1, []), (220, .goto 0, [9])],
  [(223, .iload 4, []), (225, .ireturn, [])]]
abbrev m_Mo_leastOf : Nat := 203
noncomputable def bk_Mo_leastOf : List (List AI) := [
  [(0, .aload 1, []), (1, .invokestatic 0, [168, 1]), (4, .ifCond .ne 0, [1]), (7, .iconst 0, []), (8, .goto 0, [2])],
  [(11, .aload 1, []), (12, .aload 0, []), (13, .aload 1, []), (14, .iconst 2, []), (15, .aload 0, []), (16, .getfield 0, [6, 12]), (19, .invokevirtual 0, [172, 4, 6]), (22, .invokestatic 0, [173, 2]), (25, .nop, [2])],
  [(25, .ireturn, [])]]
abbrev m_Mo_leastBits : Nat := 204
noncomputable def bk_Mo_leastBits : List (List AI) := [
  [(0, .aload 0, []), (1, .iconst 0, []), (2, .putfield 0, [6, 10, 0]), (5, .aload 0, []), (6, .aload 0, []), (7, .getfield 0, [6, 0]), (10, .invokevirtual 0, [203, 2, 6]), (13, .ireturn, [])]]
abbrev m_Mo_boundCost : Nat := 205
noncomputable def bk_Mo_boundCost : List (List AI) := [
  [(0, .aload 0, []), (1, .iload 1, []), (2, .iconst 1, []), (3, .iconst 25, []), (5, .invokestatic 0, [158, 3]), (8, .iconst 1, []), (9, .invokevirtual 0, [157, 3, 6]), (12, .ifCond .ne 0, [1]), (15, .aload 0, []), (16, .aload 0, []), (17, .getfield 0, [6, 0]), (20, .invokestatic 0, [168, 1]), (23, .iload 1, []), (24, .invokestatic 0, [182, 2]), (27, .iconst 2, []), (28, .invokevirtual 0, [157, 3, 6]), (31, .ifCond .eq 0, [2]), (34, .nop, [1])],
  [(34, .iconst 0, []), (35, .ireturn, [])],
  [(36, .aload 0, []), (37, .getfield 0, [6, 0]), (40, .invokestatic 0, [168, 1]), (43, .ifCond .ne 0, [3]), (46, .iconst 0, []), (47, .goto 0, [4])],
  [(50, .aload 0, []), (51, .getfield 0, [6, 0]), (54, .aload 0, []), (55, .aload 0, []), (56, .getfield 0, [6, 0]), (59, .iload 1, []), (60, .aload 0, []), (61, .getfield 0, [6, 12]), (64, .invokevirtual 0, [174, 4, 6]), (67, .invokestatic 0, [173, 2]), (70, .aload 0, []), (71, .aload 0, []), (72, .getfield 0, [6, 0]), (75, .invokevirtual 0, [203, 2, 6]), (78, .isub, []), (79, .nop, [4])],
  [(79, .ireturn, [])]]
abbrev m_Mo_orderCost : Nat := 206
noncomputable def bk_Mo_orderCost : List (List AI) := [
  [(0, .aload 0, []), (1, .iconst 0, []), (2, .putfield 0, [6, 10, 0]), (5, .aload 0, []), (6, .getfield 0, [6, 0]), (9, .invokestatic 0, [168, 1]), (12, .ifCond .ne 0, [1]), (15, .iconst 0, []), (16, .goto 0, [2])],
  [(19, .aload 0, []), (20, .getfield 0, [6, 0]), (23, .aload 0, []), (24, .getfield 0, [6, 0]), (27, .invokestatic 0, [176, 1]), (30, .invokestatic 0, [173, 2]), (33, .aload 0, []), (34, .aload 0, []), (35, .getfield 0, [6, 0]), (38, .invokevirtual 0, [203, 2, 6]), (41, .isub, []), (42, .nop, [2])],
  [(42, .ireturn, [])]]
abbrev m_Mo_areAlike : Nat := 207
noncomputable def bk_Mo_areAlike : List (List AI) := [
  [(0, .aload 0, []), (1, .getfield 0, [6, 2]), (4, .iload 1, []), (5, .isub, []), (6, .iload 3, []), (7, .if_icmp .ge 0, [1]), (10, .aload 0, []), (11, .getfield 0, [6, 2]), (14, .iload 1, []), (15, .isub, []), (16, .goto 0, [2])],
  [(19, .iload 3, []), (20, .nop, [2])],
  [(20, .istore 4, []), (22, .aload 0, []), (23, .getfield 0, [6, 2]), (26, .iload 2, []), (27, .isub, []), (28, .iload 3, []), (29, .if_icmp .ge 0, [3]), (32, .aload 0, []), (33, .getfield 0, [6, 2]), (36, .iload 2, []), (37, .isub, []), (38, .goto 0, [4])],
  [(41, .iload 3, []), (42, .nop, [4])],
  [(42, .istore 5, []), (44, .iload 4, []), (46, .iload 5, []), (48, .if_icmp .ne 0, [5]), (51, .iconst 1, []), (52, .goto 0, [6])],
  [(55, .iconst 0, []), (56, .nop, [6])],
  [(56, .istore 6, []), (58, .iconst 0, []), (59, .istore 7, []), (61, .nop, [7])],
  [(61, .iload 7, []), (63, .iload 4, []), (65, .if_icmp .ge 0, [10]), (68, .iload 6, []), (70, .ifCond .eq 0, [10]), (73, .aload 0, []), (74, .getfield 0, [6, 1]), (77, .iload 1, []), (78, .iload 7, []), (80, .iadd, []), (81, .iaload, []), (82, .aload 0, []), (83, .getfield 0, [6, 1]), (86, .iload 2, []), (87, .iload 7, []), (89, .iadd, []), (90, .iaload, []), (91, .if_icmp .ne 0, [8]), (94, .iconst 1, []), (95, .goto 0, [9])],
  [(98, .iconst 0, []), (99, .nop, [9])],
  [(99, .istore 6, []), (101, .iinc 7 1, []), (104, .goto 0, [7])],
  [(107, .iload 6, []), (109, .ireturn, [2])]]
abbrev m_Mo_blockBits : Nat := 208
noncomputable def bk_Mo_blockBits : List (List AI) := [
  [(0, .aload 0, []), (1, .iload 1, []), (2, .iconst 1, []), (3, .iconst 4, []), (4, .invokestatic 0, [158, 3]), (7, .iconst 1, []), (8, .invokevirtual 0, [157, 3, 6]), (11, .ifCond .eq 0, [1]), (14, .iconst 0, []), (15, .ireturn, [])],
  [(16, .iconst 120, []), (18, .newarray .int, [0]), (20, .astore 2, []), (21, .iconst 0, []), (22, .istore 3, []), (23, .nop, [2])],
  [(23, .iload 3, []), (24, .aload 0, []), (25, .getfield 0, [6, 2]), (28, .if_icmp .ge 0, [5]), (31, .iconst 0, []), (32, .istore 4, []), (34, .nop, [3])],
  [(34, .aload 0, []), (35, .iload 4, []), (37, .iload 3, []), (38, .iload 1, []), (39, .invokevirtual 0, [207, 4, 6]), (42, .ifCond .ne 0, [4]), (45, .iload 4, []), (47, .iload 1, []), (48, .iadd, []), (49, .istore 4, []), (51, .goto 0, [3])],
  [(54, .aload 2, []), (55, .iload 4, []), (57, .dup2, []), (58, .iaload, []), (59, .iconst 1, []), (60, .iadd, []), (61, .iastore, []), (62, .iload 3, []), (63, .iload 1, []), (64, .iadd, []), (65, .istore 3, []), (66, .goto 0, [2])],
  [(69, .aload 0, []), (70, .aload 2, []), (71, .invokevirtual 0, [203, 2, 6]), (74, .ireturn, [])]]
abbrev m_Mo_fibonacci : Nat := 209
noncomputable def bk_Mo_fibonacci : List (List AI) := [
  [(0, .iconst 1, []), (1, .istore 1, []), (2, .iconst 1, []), (3, .istore 2, []), (4, .iconst 2, []), (5, .istore 3, []), (6, .nop, [1])],
  [(6, .iload 3, []), (7, .iload 0, []), (8, .if_icmp .ge 0, [2]), (11, .iload 1, []), (12, .iload 2, []), (13, .iadd, []), (14, .istore 4, []), (16, .iload 2, []), (17, .istore 1, []), (18, .iload 4, []), (20, .istore 2, []), (21, .iinc 3 1, []), (24, .goto 0, [1])],
  [(27, .iload 0, []), (28, .iconst 2, []), (29, .if_icmp .ge 0, [3]), (32, .iconst 1, []), (33, .goto 0, [4])],
  [(36, .iload 2, []), (37, .nop, [4])],
  [(37, .ireturn, [])]]
abbrev m_Mo_fewestFor : Nat := 210
noncomputable def bk_Mo_fewestFor : List (List AI) := [
  [(0, .aload 0, []), (1, .iload 1, []), (2, .iconst 1, []), (3, .iconst 25, []), (5, .invokestatic 0, [158, 3]), (8, .iconst 1, []), (9, .invokevirtual 0, [157, 3, 6]), (12, .ifCond .eq 0, [1]), (15, .iconst 0, []), (16, .ireturn, [])],
  [(17, .iconst 0, []), (18, .istore 2, []), (19, .iconst 0, []), (20, .istore 3, []), (21, .nop, [2])],
  [(21, .iload 3, []), (22, .iload 1, []), (23, .if_icmp .gt 0, [3]), (26, .iload 2, []), (27, .iload 3, []), (28, .invokestatic 0, [209, 1]), (31, .iadd, []), (32, .istore 2, []), (33, .iinc 3 1, []), (36, .goto 0, [2])],
  [(39, .iload 2, []), (40, .ireturn, [])]]
abbrev m_Mo_countFor : Nat := 211
noncomputable def bk_Mo_countFor : List (List AI) := [
  [(0, .aload 0, []), (1, .iload 1, []), (2, .iconst 1, []), (3, .iconst 25, []), (5, .invokestatic 0, [158, 3]), (8, .iconst 1, []), (9, .invokevirtual 0, [157, 3, 6]), (12, .ifCond .ne 0, [1]), (15, .aload 0, []), (16, .iload 2, []), (17, .iconst 0, []), (18, .iload 1, []), (19, .invokestatic 0, [158, 3]), (22, .iconst 2, []), (23, .invokevirtual 0, [157, 3, 6]), (26, .ifCond .eq 0, [2]), (29, .nop, [1])],
  [(29, .iconst 0, []), (30, .goto 0, [3])],
  [(33, .iload 2, []), (34, .invokestatic 0, [209, 1]), (37, .nop, [3])],
  [(37, .ireturn, [])]]
abbrev m_Mo_savedAt : Nat := 212
noncomputable def bk_Mo_savedAt : List (List AI) := [
  [(0, .aload 0, []), (1, .aload 0, []), (2, .iconst 0, []), (3, .aload 0, []), (4, .getfield 0, [6, 2]), (7, .invokevirtual 0, [169, 3, 6]), (10, .invokevirtual 0, [203, 2, 6]), (13, .aload 0, []), (14, .aload 0, []), (15, .iconst 0, []), (16, .iload 1, []), (17, .invokevirtual 0, [169, 3, 6]), (20, .invokevirtual 0, [203, 2, 6]), (23, .isub, []), (24, .aload 0, []), (25, .aload 0, []), (26, .iload 1, []), (27, .aload 0, []), (28, .getfield 0, [6, 2]), (31, .invokevirtual 0, [169, 3, 6]), (34, .invokevirtual 0, [203, 2, 6]), (37, .isub, []), (38, .iconst 130, []), (41, .isub, []), (42, .ireturn, [])]]
abbrev m_Mo_saved : Nat := 213
noncomputable def bk_Mo_saved : List (List AI) := [
  [(0, .aload 0, []), (1, .iload 1, []), (2, .iconst 0, []), (3, .aload 0, []), (4, .getfield 0, [6, 2]), (7, .invokestatic 0, [158, 3]), (10, .iconst 1, []), (11, .invokevirtual 0, [157, 3, 6]), (14, .ifCond .eq 0, [1]), (17, .iconst 0, []), (18, .goto 0, [2])],
  [(21, .aload 0, []), (22, .iload 1, []), (23, .invokevirtual 0, [212, 2, 6]), (26, .nop, [2])],
  [(26, .ireturn, [])]]
abbrev m_Mo_bestCut : Nat := 214
noncomputable def bk_Mo_bestCut : List (List AI) := [
  [(0, .aload 0, []), (1, .iconst 0, []), (2, .putfield 0, [6, 10, 0]), (5, .iconst 0, []), (6, .istore 1, []), (7, .iconst 1, []), (8, .istore 2, []), (9, .nop, [1])],
  [(9, .iload 2, []), (10, .aload 0, []), (11, .getfield 0, [6, 2]), (14, .if_icmp .gt 0, [4]), (17, .aload 0, []), (18, .iload 2, []), (19, .invokevirtual 0, [212, 2, 6]), (22, .aload 0, []), (23, .iload 1, []), (24, .invokevirtual 0, [212, 2, 6]), (27, .if_icmp .le 0, [2]), (30, .iload 2, []), (31, .goto 0, [3])],
  [(34, .iload 1, []), (35, .nop, [3])],
  [(35, .istore 1, []), (36, .iinc 2 1, []), (39, .goto 0, [1])],
  [(42, .iload 1, []), (43, .ireturn, [])]]
abbrev m_Mo_putWord : Nat := 215
noncomputable def bk_Mo_putWord : List (List AI) := [
  [(0, .iconst 0, []), (1, .istore 5, []), (3, .nop, [1])],
  [(3, .iload 5, []), (5, .iload 4, []), (7, .if_icmp .ge 0, [2]), (10, .aload 0, []), (11, .iload 1, []), (12, .iload 5, []), (14, .iadd, []), (15, .lload 2, []), (16, .iload 4, []), (18, .iload 5, []), (20, .iconst 2, []), (21, .invokestatic 0, [179, 4]), (24, .iastore, []), (25, .iinc 5 1, []), (28, .goto 0, [1])],
  [(31, .iload 1, []), (32, .iload 4, []), (34, .iadd, []), (35, .ireturn, [])]]
abbrev m_Mo_wordAt : Nat := 216
noncomputable def bk_Mo_wordAt : List (List AI) := [
  [(0, .iconst 0, []), (1, .istore 5, []), (3, .nop, [1])],
  [(3, .iload 5, []), (5, .aload 4, []), (7, .arraylength, []), (8, .if_icmp .ge 0, [9]), (11, .aload 4, []), (13, .iload 5, []), (15, .iaload, []), (16, .ifCond .lt 0, [2]), (19, .iload 2, []), (20, .aload 4, []), (22, .iload 5, []), (24, .iaload, []), (25, .iadd, []), (26, .iload 1, []), (27, .if_icmp .gt 0, [2]), (30, .iconst 1, []), (31, .goto 0, [3])],
  [(34, .iconst 0, []), (35, .nop, [3])],
  [(35, .istore 6, []), (37, .iconst 0, []), (38, .istore 7, []), (40, .nop, [4])],
  [(40, .iload 7, []), (42, .aload 4, []), (44, .iload 5, []), (46, .iaload, []), (47, .if_icmp .ge 0, [7]), (50, .iload 6, []), (52, .ifCond .eq 0, [7]), (55, .aload 0, []), (56, .iload 2, []), (57, .iload 7, []), (59, .iadd, []), (60, .iaload, []), (61, .aload 3, []), (62, .iload 5, []), (64, .laload, []), (65, .aload 4, []), (67, .iload 5, []), (69, .iaload, []), (70, .iload 7, []), (72, .iconst 2, []), (73, .invokestatic 0, [179, 4]), (76, .if_icmp .ne 0, [5]), (79, .iconst 1, []), (80, .goto 0, [6])],
  [(83, .iconst 0, []), (84, .nop, [6])],
  [(84, .istore 6, []), (86, .iinc 7 1, []), (89, .goto 0, [4])],
  [(92, .iload 6, []), (94, .ifCond .eq 0, [8]), (97, .iload 5, []), (99, .ireturn, [])],
  [(100, .iinc 5 1, []), (103, .goto 0, [1])],
  [(106, .iconst (-1), []), (107, .ireturn, [])]]
abbrev m_Mo_hasTyped : Nat := 217
noncomputable def bk_Mo_hasTyped : List (List AI) := [
  [(0, .iconst 1, []), (1, .istore 2, []), (2, .iconst 0, []), (3, .istore 3, []), (4, .nop, [1])],
  [(4, .iload 3, []), (5, .aload 0, []), (6, .getfield 0, [6, 2]), (9, .if_icmp .ge 0, [4]), (12, .iload 2, []), (13, .ifCond .eq 0, [2]), (16, .aload 0, []), (17, .getfield 0, [6, 4]), (20, .iload 1, []), (21, .aaload, []), (22, .aload 0, []), (23, .getfield 0, [6, 1]), (26, .iload 3, []), (27, .iaload, []), (28, .iaload, []), (29, .ifCond .lt 0, [2]), (32, .iconst 1, []), (33, .goto 0, [3])],
  [(36, .iconst 0, []), (37, .nop, [3])],
  [(37, .istore 2, []), (38, .iinc 3 1, []), (41, .goto 0, [1])],
  [(44, .iload 2, []), (45, .ireturn, [2])]]
abbrev m_Mo_write : Nat := 218
noncomputable def bk_Mo_write : List (List AI) := [
  [(0, .aload 0, []), (1, .aload 0, []), (2, .iload 1, []), (3, .invokevirtual 0, [160, 2, 6]), (6, .iconst 1, []), (7, .invokevirtual 0, [157, 3, 6]), (10, .ifCond .ne 0, [3]), (13, .aload 0, []), (14, .aload 0, []), (15, .getfield 0, [6, 3]), (18, .iload 1, []), (19, .caload, []), (20, .iconst 116, []), (22, .if_icmp .eq 0, [1]), (25, .iconst 1, []), (26, .goto 0, [2])],
  [(29, .iconst 0, []), (30, .nop, [2])],
  [(30, .iconst 2, []), (31, .invokevirtual 0, [157, 3, 6]), (34, .ifCond .ne 0, [3]), (37, .aload 0, []), (38, .aload 0, []), (39, .iload 1, []), (40, .invokevirtual 0, [217, 2, 6]), (43, .iconst 3, []), (44, .invokevirtual 0, [157, 3, 6]), (47, .ifCond .eq 0, [4]), (50, .nop, [3])],
  [(50, .iconst 0, []), (51, .ireturn, [])],
  [(52, .aload 0, []), (53, .iconst 0, []), (54, .putfield 0, [6, 8, 0]), (57, .iconst 0, []), (58, .istore 2, []), (59, .nop, [5])],
  [(59, .iload 2, []), (60, .aload 0, []), (61, .getfield 0, [6, 2]), (64, .if_icmp .ge 0, [6]), (67, .aload 0, []), (68, .aload 0, []), (69, .getfield 0, [6, 7]), (72, .aload 0, []), (73, .getfield 0, [6, 8]), (76, .aload 0, []), (77, .getfield 0, [6, 5]), (80, .iload 1, []), (81, .aaload, []), (82, .aload 0, []), (83, .getfield 0, [6, 1]), (86, .iload 2, []), (87, .iaload, []), (88, .laload, []), (89, .aload 0, []), (90, .getfield 0, [6, 4]), (93, .iload 1, []), (94, .aaload, []), (95, .aload 0, []), (96, .getfield 0, [6, 1]), (99, .iload 2, []), (100, .iaload, []), (101, .iaload, []), (102, .invokestatic 0, [215, 4]), (105, .putfield 0, [6, 8, 0]), (108, .iinc 2 1, []), (111, .goto 0, [5])],
  [(114, .aload 0, []), (115, .aload 0, []), (116, .getfield 0, [6, 2]), (119, .putfield 0, [6, 9, 0]), (122, .aload 0, []), (123, .getfield 0, [6, 8]), (126, .ireturn, [])]]
abbrev m_Mo_read : Nat := 219
noncomputable def bk_Mo_read : List (List AI) := [
  [(0, .aload 0, []), (1, .aload 0, []), (2, .iload 1, []), (3, .invokevirtual 0, [160, 2, 6]), (6, .iconst 1, []), (7, .invokevirtual 0, [157, 3, 6]), (10, .ifCond .ne 0, [3]), (13, .aload 0, []), (14, .aload 0, []), (15, .getfield 0, [6, 3]), (18, .iload 1, []), (19, .caload, []), (20, .iconst 116, []), (22, .if_icmp .eq 0, [1]), (25, .iconst 1, []), (26, .goto 0, [2])],
  [(29, .iconst 0, []), (30, .nop, [2])],
  [(30, .iconst 2, []), (31, .invokevirtual 0, [157, 3, 6]), (34, .ifCond .eq 0, [4]), (37, .nop, [3])],
  [(37, .iconst 0, []), (38, .ireturn, [])],
  [(39, .aload 0, []), (40, .iconst 0, []), (41, .putfield 0, [6, 2, 0]), (44, .iconst 0, []), (45, .istore 2, []), (46, .iconst 0, []), (47, .istore 3, []), (48, .nop, [5])],
  [(48, .aload 0, []), (49, .getfield 0, [6, 2]), (52, .aload 0, []), (53, .getfield 0, [6, 9]), (56, .if_icmp .ge 0, [6]), (59, .iload 3, []), (60, .ifCond .lt 0, [6]), (63, .aload 0, []), (64, .getfield 0, [6, 7]), (67, .aload 0, []), (68, .getfield 0, [6, 8]), (71, .iload 2, []), (72, .aload 0, []), (73, .getfield 0, [6, 5]), (76, .iload 1, []), (77, .aaload, []), (78, .aload 0, []), (79, .getfield 0, [6, 4]), (82, .iload 1, []), (83, .aaload, []), (84, .invokestatic 0, [216, 5]), (87, .istore 3, []), (88, .iload 3, []), (89, .ifCond .lt 0, [5]), (92, .iload 2, []), (93, .aload 0, []), (94, .getfield 0, [6, 4]), (97, .iload 1, []), (98, .aaload, []), (99, .iload 3, []), (100, .iaload, []), (101, .iadd, []), (102, .istore 2, []), (103, .aload 0, []), (104, .getfield 0, [6, 1]), (107, .aload 0, []), (108, .getfield 0, [6, 2]), (111, .iload 3, []), (112, .iastore, []), (113, .aload 0, []), (114, .dup, []), (115, .getfield 0, [6, 2]), (118, .iconst 1, []), (119, .iadd, []), (120, .putfield 0, [6, 2, 0]), (123, .goto 0, [5])],
  [(126, .aload 0, []), (127, .getfield 0, [6, 2]), (130, .ireturn, [])]]
abbrev m_Mo_grows : Nat := 220
noncomputable def bk_Mo_grows : List (List AI) := [
  [(0, .aload 0, []), (1, .getfield 0, [6, 13]), (4, .iload 1, []), (5, .dup2, []), (6, .iaload, []), (7, .iconst 1, []), (8, .iadd, []), (9, .iastore, []), (10, .iconst 0, []), (11, .istore 2, []), (12, .aload 0, []), (13, .getfield 0, [6, 13]), (16, .astore 3, []), (17, .aload 3, []), (18, .arraylength, []), (19, .istore 4, []), (21, .iconst 0, []), (22, .istore 5, []), (24, .nop, [1])],
  [(24, .iload 5, []), (26, .iload 4, []), (28, .if_icmp .ge 0, [2]), (31, .aload 3, []), (32, .iload 5, []), (34, .iaload, []), (35, .istore 6, []), (37, .iload 2, []), (38, .iload 6, []), (40, .iadd, []), (41, .istore 2, []), (42, .iinc 5 1, []), (45, .goto 0, [1])],
  [(48, .iconst 0, []), (49, .istore 3, []), (50, .nop, [3])],
  [(50, .iload 3, []), (51, .iconst 26, []), (53, .if_icmp .gt 0, [4]), (56, .iload 2, []), (57, .iconst 40, []), (59, .if_icmp .le 0, [4]), (62, .aload 0, []), (63, .getfield 0, [6, 13]), (66, .iload 3, []), (67, .aload 0, []), (68, .getfield 0, [6, 13]), (71, .iload 3, []), (72, .iaload, []), (73, .iconst 1, []), (74, .iadd, []), (75, .iconst 2, []), (76, .idiv, []), (77, .iastore, []), (78, .iinc 3 1, []), (81, .goto 0, [3])],
  [(84, .return_, [])]]
abbrev m_Mo_begins : Nat := 221
noncomputable def bk_Mo_begins : List (List AI) := [
  [(0, .iconst 0, []), (1, .istore 1, []), (2, .nop, [1])],
  [(2, .iload 1, []), (3, .iconst 26, []), (5, .if_icmp .ge 0, [2]), (8, .aload 0, []), (9, .getfield 0, [6, 13]), (12, .iload 1, []), (13, .iconst 0, []), (14, .iastore, []), (15, .iinc 1 1, []), (18, .goto 0, [1])],
  [(21, .aload 0, []), (22, .getfield 0, [6, 13]), (25, .iconst 26, []), (27, .iconst 1, []), (28, .iastore, []), (29, .return_, [])]]
abbrev m_Mo_grown : Nat := 222
noncomputable def bk_Mo_grown : List (List AI) := [
  [(0, .aload 0, []), (1, .invokevirtual 0, [221, 1, 6]), (4, .iconst 0, []), (5, .istore 4, []), (7, .iconst 0, []), (8, .istore 5, []), (10, .nop, [1])],
  [(10, .iload 5, []), (12, .iload 2, []), (13, .if_icmp .ge 0, [5]), (16, .aload 0, []), (17, .aload 0, []), (18, .getfield 0, [6, 13]), (21, .iconst 2, []), (22, .aload 0, []), (23, .getfield 0, [6, 14]), (26, .invokevirtual 0, [172, 4, 6]), (29, .astore 6, []), (31, .aload 6, []), (33, .iconst 2, []), (34, .aload 0, []), (35, .getfield 0, [6, 15]), (38, .invokestatic 0, [177, 3]), (41, .astore 7, []), (43, .aload 0, []), (44, .getfield 0, [6, 13]), (47, .aload 1, []), (48, .iload 5, []), (50, .iaload, []), (51, .iaload, []), (52, .ifCond .le 0, [2]), (55, .aload 1, []), (56, .iload 5, []), (58, .iaload, []), (59, .goto 0, [3])],
  [(62, .iconst 26, []), (64, .nop, [3])],
  [(64, .istore 8, []), (66, .aload 3, []), (67, .iload 4, []), (69, .aload 7, []), (71, .iload 8, []), (73, .laload, []), (74, .aload 6, []), (76, .iload 8, []), (78, .iaload, []), (79, .invokestatic 0, [215, 4]), (82, .istore 4, []), (84, .iload 8, []), (86, .iconst 26, []), (88, .if_icmp .ne 0, [4]), (91, .aload 3, []), (92, .iload 4, []), (94, .aload 1, []), (95, .iload 5, []), (97, .iaload, []), (98, .i2l, []), (99, .iconst 5, []), (100, .invokestatic 0, [215, 4]), (103, .istore 4, []), (105, .nop, [4])],
  [(105, .aload 0, []), (106, .aload 1, []), (107, .iload 5, []), (109, .iaload, []), (110, .invokevirtual 0, [220, 2, 6]), (113, .iinc 5 1, []), (116, .goto 0, [1])],
  [(119, .iload 4, []), (121, .ireturn, [])]]
abbrev m_Mo_ungrown : Nat := 223
noncomputable def bk_Mo_ungrown : List (List AI) := [
  [(0, .aload 0, []), (1, .invokevirtual 0, [221, 1, 6]), (4, .iconst 0, []), (5, .istore 5, []), (7, .iconst 0, []), (8, .istore 6, []), (10, .nop, [1])],
  [(10, .iload 6, []), (12, .iload 3, []), (13, .if_icmp .ge 0, [9]), (16, .aload 0, []), (17, .aload 0, []), (18, .getfield 0, [6, 13]), (21, .iconst 2, []), (22, .aload 0, []), (23, .getfield 0, [6, 14]), (26, .invokevirtual 0, [172, 4, 6]), (29, .astore 7, []), (31, .aload 1, []), (32, .iload 2, []), (33, .iload 5, []), (35, .aload 7, []), (37, .iconst 2, []), (38, .aload 0, []), (39, .getfield 0, [6, 15]), (42, .invokestatic 0, [177, 3]), (45, .aload 7, []), (47, .invokestatic 0, [216, 5]), (50, .istore 8, []), (52, .iload 8, []), (54, .ifCond .ge 0, [2]), (57, .iload 6, []), (59, .ireturn, [])],
  [(60, .iload 5, []), (62, .aload 7, []), (64, .iload 8, []), (66, .iaload, []), (67, .iadd, []), (68, .istore 5, []), (70, .iload 8, []), (72, .iconst 26, []), (74, .if_icmp .ne 0, [8]), (77, .iconst 0, []), (78, .istore 9, []), (80, .iconst 0, []), (81, .istore 10, []), (83, .nop, [3])],
  [(83, .iload 10, []), (85, .iconst 5, []), (86, .if_icmp .ge 0, [6]), (89, .iload 5, []), (91, .iload 10, []), (93, .iadd, []), (94, .iload 2, []), (95, .if_icmp .ge 0, [4]), (98, .iconst 2, []), (99, .iload 9, []), (101, .imul, []), (102, .aload 1, []), (103, .iload 5, []), (105, .iload 10, []), (107, .iadd, []), (108, .iaload, []), (109, .iadd, []), (110, .goto 0, [5])],
  [(113, .iconst 99, []), (115, .nop, [5])],
  [(115, .istore 9, []), (117, .iinc 10 1, []), (120, .goto 0, [3])],
  [(123, .iload 9, []), (125, .iconst 26, []), (127, .if_icmp .lt 0, [7]), (130, .iload 6, []), (132, .ireturn, [])],
  [(133, .iinc 5 5, []), (136, .iload 9, []), (138, .istore 8, []), (140, .nop, [8])],
  [(140, .aload 4, []), (142, .iload 6, []), (144, .iload 8, []), (146, .iastore, []), (147, .iinc 6 1, []), (150, .aload 0, []), (151, .iload 8, []), (153, .invokevirtual 0, [220, 2, 6]), (156, .goto 0, [1])],
  [(159, .iload 6, []), (161, .ireturn, [])]]
abbrev m_Mo_writeGrowing : Nat := 224
noncomputable def bk_Mo_writeGrowing : List (List AI) := [
  [(0, .aload 0, []), (1, .iconst 0, []), (2, .putfield 0, [6, 10, 0]), (5, .aload 0, []), (6, .aload 0, []), (7, .aload 0, []), (8, .getfield 0, [6, 1]), (11, .aload 0, []), (12, .getfield 0, [6, 2]), (15, .aload 0, []), (16, .getfield 0, [6, 7]), (19, .invokevirtual 0, [222, 4, 6]), (22, .putfield 0, [6, 8, 0]), (25, .aload 0, []), (26, .aload 0, []), (27, .getfield 0, [6, 2]), (30, .putfield 0, [6, 9, 0]), (33, .aload 0, []), (34, .getfield 0, [6, 8]), (37, .ireturn, [])]]
abbrev m_Mo_readGrowing : Nat := 225
noncomputable def bk_Mo_readGrowing : List (List AI) := [
  [(0, .aload 0, []), (1, .iconst 0, []), (2, .putfield 0, [6, 10, 0]), (5, .aload 0, []), (6, .aload 0, []), (7, .aload 0, []), (8, .getfield 0, [6, 7]), (11, .aload 0, []), (12, .getfield 0, [6, 8]), (15, .aload 0, []), (16, .getfield 0, [6, 9]), (19, .aload 0, []), (20, .getfield 0, [6, 1]), (23, .invokevirtual 0, [223, 5, 6]), (26, .putfield 0, [6, 2, 0]), (29, .aload 0, []), (30, .getfield 0, [6, 2]), (33, .ireturn, [])]]
abbrev m_Mo_streamBits : Nat := 226
noncomputable def bk_Mo_streamBits : List (List AI) := [
  [(0, .aload 0, []), (1, .iconst 0, []), (2, .putfield 0, [6, 10, 0]), (5, .aload 0, []), (6, .getfield 0, [6, 8]), (9, .ireturn, [])]]
abbrev m_Mo_written : Nat := 227
noncomputable def bk_Mo_written : List (List AI) := [
  [(0, .aload 0, []), (1, .iconst 0, []), (2, .putfield 0, [6, 10, 0]), (5, .aload 0, []), (6, .getfield 0, [6, 9]), (9, .ireturn, [])]]
abbrev m_Mo_bitAt : Nat := 228
noncomputable def bk_Mo_bitAt : List (List AI) := [
  [(0, .aload 0, []), (1, .iload 1, []), (2, .iconst 0, []), (3, .aload 0, []), (4, .getfield 0, [6, 8]), (7, .iconst 1, []), (8, .isub, []), (9, .invokestatic 0, [158, 3]), (12, .iconst 1, []), (13, .invokevirtual 0, [157, 3, 6]), (16, .ifCond .eq 0, [1]), (19, .iconst 0, []), (20, .goto 0, [2])],
  [(23, .aload 0, []), (24, .getfield 0, [6, 7]), (27, .iload 1, []), (28, .iaload, []), (29, .nop, [2])],
  [(29, .ireturn, [])]]
abbrev m_Mo_turn : Nat := 229
noncomputable def bk_Mo_turn : List (List AI) := [
  [(0, .aload 0, []), (1, .iload 1, []), (2, .iconst 0, []), (3, .aload 0, []), (4, .getfield 0, [6, 8]), (7, .iconst 1, []), (8, .isub, []), (9, .invokestatic 0, [158, 3]), (12, .iconst 1, []), (13, .invokevirtual 0, [157, 3, 6]), (16, .ifCond .eq 0, [1]), (19, .iconst 0, []), (20, .ireturn, [])],
  [(21, .aload 0, []), (22, .getfield 0, [6, 7]), (25, .iload 1, []), (26, .iconst 1, []), (27, .aload 0, []), (28, .getfield 0, [6, 7]), (31, .iload 1, []), (32, .iaload, []), (33, .isub, []), (34, .iastore, []), (35, .aload 0, []), (36, .getfield 0, [6, 7]), (39, .iload 1, []), (40, .iaload, []), (41, .ireturn, [])]]
abbrev m_Mo_byteAt : Nat := 230
noncomputable def bk_Mo_byteAt : List (List AI) := [
  [(0, .aload 0, []), (1, .iload 1, []), (2, .iconst 0, []), (3, .aload 0, []), (4, .getfield 0, [6, 8]), (7, .iconst 7, []), (9, .iadd, []), (10, .iconst 8, []), (12, .idiv, []), (13, .iconst 1, []), (14, .isub, []), (15, .invokestatic 0, [158, 3]), (18, .iconst 1, []), (19, .invokevirtual 0, [157, 3, 6]), (22, .ifCond .eq 0, [1]), (25, .iconst 0, []), (26, .ireturn, [])],
  [(27, .iconst 0, []), (28, .istore 2, []), (29, .iconst 8, []), (31, .iload 1, []), (32, .imul, []), (33, .istore 3, []), (34, .nop, [2])],
  [(34, .iload 3, []), (35, .iconst 8, []), (37, .iload 1, []), (38, .imul, []), (39, .iconst 8, []), (41, .iadd, []), (42, .if_icmp .ge 0, [5]), (45, .iconst 2, []), (46, .iload 2, []), (47, .imul, []), (48, .iload 3, []), (49, .aload 0, []), (50, .getfield 0, [6, 8]), (53, .if_icmp .ge 0, [3]), (56, .aload 0, []), (57, .getfield 0, [6, 7]), (60, .iload 3, []), (61, .iaload, []), (62, .goto 0, [4])],
  [(65, .iconst 0, []), (66, .nop, [4])],
  [(66, .iadd, []), (67, .istore 2, []), (68, .iinc 3 1, []), (71, .goto 0, [2])],
  [(74, .iload 2, []), (75, .ireturn, [])]]
abbrev m_Mo_ends : Nat := 231
noncomputable def bk_Mo_ends : List (List AI) := [
  [(0, .iconst 0, []), (1, .istore 3, []), (2, .nop, [1])],
  [(2, .iload 3, []), (3, .iconst 4200, []), (6, .if_icmp .gt 0, [2]), (9, .aload 2, []), (10, .iload 3, []), (11, .iconst 0, []), (12, .bastore, []), (13, .iinc 3 1, []), (16, .goto 0, [1])],
  [(19, .iconst 0, []), (20, .istore 3, []), (21, .aload 0, []), (22, .getfield 0, [6, 7]), (25, .aload 0, []), (26, .getfield 0, [6, 8]), (29, .iconst 0, []), (30, .aload 0, []), (31, .getfield 0, [6, 5]), (34, .iload 1, []), (35, .aaload, []), (36, .aload 0, []), (37, .getfield 0, [6, 4]), (40, .iload 1, []), (41, .aaload, []), (42, .invokestatic 0, [216, 5]), (45, .istore 4, []), (47, .nop, [3])],
  [(47, .iload 4, []), (49, .ifCond .lt 0, [4]), (52, .iload 3, []), (53, .aload 0, []), (54, .getfield 0, [6, 4]), (57, .iload 1, []), (58, .aaload, []), (59, .iload 4, []), (61, .iaload, []), (62, .iadd, []), (63, .istore 3, []), (64, .aload 2, []), (65, .iload 3, []), (66, .iconst 1, []), (67, .bastore, []), (68, .aload 0, []), (69, .getfield 0, [6, 7]), (72, .aload 0, []), (73, .getfield 0, [6, 8]), (76, .iload 3, []), (77, .aload 0, []), (78, .getfield 0, [6, 5]), (81, .iload 1, []), (82, .aaload, []), (83, .aload 0, []), (84, .getfield 0, [6, 4]), (87, .iload 1, []), (88, .aaload, []), (89, .invokestatic 0, [216, 5]), (92, .istore 4, []), (94, .goto 0, [3])],
  [(97, .aload 2, []), (98, .areturn, [])]]
abbrev m_Mo_isSteady : Nat := 232
noncomputable def bk_Mo_isSteady : List (List AI) := [
  [(0, .aload 0, []), (1, .getfield 0, [6, 3]), (4, .iload 1, []), (5, .caload, []), (6, .iconst 116, []), (8, .if_icmp .eq 0, [1]), (11, .iconst 1, []), (12, .goto 0, [2])],
  [(15, .iconst 0, []), (16, .nop, [2])],
  [(16, .istore 2, []), (17, .aload 0, []), (18, .getfield 0, [6, 4]), (21, .iload 1, []), (22, .aaload, []), (23, .astore 3, []), (24, .aload 3, []), (25, .arraylength, []), (26, .istore 4, []), (28, .iconst 0, []), (29, .istore 5, []), (31, .nop, [3])],
  [(31, .iload 5, []), (33, .iload 4, []), (35, .if_icmp .ge 0, [6]), (38, .aload 3, []), (39, .iload 5, []), (41, .iaload, []), (42, .istore 6, []), (44, .iload 2, []), (45, .ifCond .eq 0, [4]), (48, .iload 6, []), (50, .ifCond .eq 0, [4]), (53, .iconst 1, []), (54, .goto 0, [5])],
  [(57, .iconst 0, []), (58, .nop, [5])],
  [(58, .istore 2, []), (59, .iinc 5 1, []), (62, .goto 0, [3])],
  [(65, .iload 2, []), (66, .ireturn, [2])]]
abbrev m_Mo_stepAt : Nat := 233
noncomputable def bk_Mo_stepAt : List (List AI) := [
  [(0, .aload 0, []), (1, .getfield 0, [6, 7]), (4, .iload 2, []), (5, .iconst 1, []), (6, .aload 0, []), (7, .getfield 0, [6, 7]), (10, .iload 2, []), (11, .iaload, []), (12, .isub, []), (13, .iastore, []), (14, .aload 0, []), (15, .iload 1, []), (16, .aload 0, []), (17, .getfield 0, [6, 20]), (20, .invokevirtual 0, [231, 3, 6]), (23, .astore 4, []), (25, .aload 0, []), (26, .getfield 0, [6, 7]), (29, .iload 2, []), (30, .iconst 1, []), (31, .aload 0, []), (32, .getfield 0, [6, 7]), (35, .iload 2, []), (36, .iaload, []), (37, .isub, []), (38, .iastore, []), (39, .iload 2, []), (40, .iconst 1, []), (41, .iadd, []), (42, .istore 5, []), (44, .nop, [1])],
  [(44, .iload 5, []), (46, .aload 0, []), (47, .getfield 0, [6, 8]), (50, .if_icmp .gt 0, [3]), (53, .aload 3, []), (54, .iload 5, []), (56, .baload, []), (57, .ifCond .eq 0, [2]), (60, .aload 4, []), (62, .iload 5, []), (64, .baload, []), (65, .ifCond .eq 0, [2]), (68, .iload 5, []), (70, .ireturn, [])],
  [(71, .iinc 5 1, []), (74, .goto 0, [1])],
  [(77, .iconst (-1), []), (78, .ireturn, [])]]
abbrev m_Mo_inStep : Nat := 234
noncomputable def bk_Mo_inStep : List (List AI) := [
  [(0, .aload 0, []), (1, .aload 0, []), (2, .iload 1, []), (3, .invokevirtual 0, [160, 2, 6]), (6, .ifCond .eq 0, [1]), (9, .iload 2, []), (10, .iconst 0, []), (11, .aload 0, []), (12, .getfield 0, [6, 8]), (15, .iconst 1, []), (16, .isub, []), (17, .invokestatic 0, [158, 3]), (20, .ifCond .eq 0, [1]), (23, .iconst 1, []), (24, .goto 0, [2])],
  [(27, .iconst 0, []), (28, .nop, [2])],
  [(28, .iconst 1, []), (29, .invokevirtual 0, [157, 3, 6]), (32, .ifCond .ne 0, [3]), (35, .aload 0, []), (36, .aload 0, []), (37, .iload 1, []), (38, .invokevirtual 0, [232, 2, 6]), (41, .iconst 2, []), (42, .invokevirtual 0, [157, 3, 6]), (45, .ifCond .eq 0, [4]), (48, .nop, [3])],
  [(48, .iconst 0, []), (49, .ireturn, [])],
  [(50, .aload 0, []), (51, .iload 1, []), (52, .iload 2, []), (53, .aload 0, []), (54, .iload 1, []), (55, .aload 0, []), (56, .getfield 0, [6, 19]), (59, .invokevirtual 0, [231, 3, 6]), (62, .invokevirtual 0, [233, 4, 6]), (65, .ireturn, [])]]
abbrev m_Mo_lost : Nat := 235
noncomputable def bk_Mo_lost : List (List AI) := [
  [(0, .aload 0, []), (1, .aload 0, []), (2, .iload 1, []), (3, .invokevirtual 0, [160, 2, 6]), (6, .ifCond .eq 0, [1]), (9, .iload 2, []), (10, .iconst 0, []), (11, .aload 0, []), (12, .getfield 0, [6, 8]), (15, .iconst 1, []), (16, .isub, []), (17, .invokestatic 0, [158, 3]), (20, .ifCond .eq 0, [1]), (23, .iconst 1, []), (24, .goto 0, [2])],
  [(27, .iconst 0, []), (28, .nop, [2])],
  [(28, .iconst 1, []), (29, .invokevirtual 0, [157, 3, 6]), (32, .ifCond .ne 0, [3]), (35, .aload 0, []), (36, .aload 0, []), (37, .iload 1, []), (38, .invokevirtual 0, [232, 2, 6]), (41, .iconst 2, []), (42, .invokevirtual 0, [157, 3, 6]), (45, .ifCond .eq 0, [4]), (48, .nop, [3])],
  [(48, .iconst 0, []), (49, .ireturn, [])],
  [(50, .aload 0, []), (51, .iload 1, []), (52, .aload 0, []), (53, .getfield 0, [6, 19]), (56, .invokevirtual 0, [231, 3, 6]), (59, .astore 3, []), (60, .iconst 0, []), (61, .istore 4, []), (63, .iload 2, []), (64, .istore 5, []), (66, .nop, [5])],
  [(66, .iload 5, []), (68, .aload 0, []), (69, .getfield 0, [6, 8]), (72, .if_icmp .ge 0, [8]), (75, .iload 5, []), (77, .iload 2, []), (78, .iconst 32, []), (80, .iadd, []), (81, .if_icmp .ge 0, [8]), (84, .iload 4, []), (86, .aload 0, []), (87, .iload 1, []), (88, .iload 5, []), (90, .aload 3, []), (91, .invokevirtual 0, [233, 4, 6]), (94, .ifCond .ge 0, [6]), (97, .iconst 1, []), (98, .goto 0, [7])],
  [(101, .iconst 0, []), (102, .nop, [7])],
  [(102, .iadd, []), (103, .istore 4, []), (105, .iinc 5 1, []), (108, .goto 0, [5])],
  [(111, .iload 4, []), (113, .ireturn, [])]]
abbrev m_Mo_goes : Nat := 236
noncomputable def bk_Mo_goes : List (List AI) := [
  [(0, .iconst 26, []), (2, .newarray .int, [0]), (4, .astore 3, []), (5, .iconst 0, []), (6, .istore 4, []), (8, .nop, [1])],
  [(8, .iload 4, []), (10, .iconst 26, []), (12, .if_icmp .ge 0, [2]), (15, .aload 3, []), (16, .iload 4, []), (18, .iload 4, []), (20, .iastore, []), (21, .iinc 4 1, []), (24, .goto 0, [1])],
  [(27, .iconst 0, []), (28, .istore 4, []), (30, .nop, [3])],
  [(30, .iload 4, []), (32, .iload 1, []), (33, .if_icmp .ge 0, [12]), (36, .iconst 0, []), (37, .istore 5, []), (39, .nop, [4])],
  [(39, .iload 2, []), (40, .ifCond .eq 0, [5]), (43, .iload 5, []), (45, .aload 0, []), (46, .iload 4, []), (48, .iaload, []), (49, .if_icmp .eq 0, [7]), (52, .goto 0, [6])],
  [(55, .aload 3, []), (56, .iload 5, []), (58, .iaload, []), (59, .aload 0, []), (60, .iload 4, []), (62, .iaload, []), (63, .if_icmp .eq 0, [7]), (66, .nop, [6])],
  [(66, .iinc 5 1, []), (69, .goto 0, [4])],
  [(72, .aload 3, []), (73, .iload 5, []), (75, .iaload, []), (76, .istore 6, []), (78, .aload 0, []), (79, .iload 4, []), (81, .iload 2, []), (82, .ifCond .eq 0, [8]), (85, .iload 6, []), (87, .goto 0, [9])],
  [(90, .iload 5, []), (92, .nop, [9])],
  [(92, .iastore, []), (93, .iload 5, []), (95, .istore 7, []), (97, .nop, [10])],
  [(97, .iload 7, []), (99, .ifCond .le 0, [11]), (102, .aload 3, []), (103, .iload 7, []), (105, .aload 3, []), (106, .iload 7, []), (108, .iconst 1, []), (109, .isub, []), (110, .iaload, []), (111, .iastore, []), (112, .iinc 7 (-1), []), (115, .goto 0, [10])],
  [(118, .aload 3, []), (119, .iconst 0, []), (120, .iload 6, []), (122, .iastore, []), (123, .iinc 4 1, []), (126, .goto 0, [3])],
  [(129, .return_, [])]]
abbrev m_Mo_moves : Nat := 237
noncomputable def bk_Mo_moves : List (List AI) := [
  [(0, .aload 0, []), (1, .iconst 0, []), (2, .putfield 0, [6, 10, 0]), (5, .aload 0, []), (6, .getfield 0, [6, 1]), (9, .aload 0, []), (10, .getfield 0, [6, 2]), (13, .iconst 0, []), (14, .invokestatic 0, [236, 3]), (17, .iconst 0, []), (18, .istore 1, []), (19, .iconst 0, []), (20, .istore 2, []), (21, .nop, [1])],
  [(21, .iload 2, []), (22, .aload 0, []), (23, .getfield 0, [6, 2]), (26, .if_icmp .ge 0, [4]), (29, .iload 1, []), (30, .aload 0, []), (31, .getfield 0, [6, 1]), (34, .iload 2, []), (35, .iaload, []), (36, .ifCond .ne 0, [2]), (39, .iconst 1, []), (40, .goto 0, [3])],
  [(43, .iconst 0, []), (44, .nop, [3])],
  [(44, .iadd, []), (45, .istore 1, []), (46, .iinc 2 1, []), (49, .goto 0, [1])],
  [(52, .iload 1, []), (53, .ireturn, [])]]
abbrev m_Mo_unmoves : Nat := 238
noncomputable def bk_Mo_unmoves : List (List AI) := [
  [(0, .aload 0, []), (1, .iconst 0, []), (2, .putfield 0, [6, 10, 0]), (5, .aload 0, []), (6, .getfield 0, [6, 1]), (9, .aload 0, []), (10, .getfield 0, [6, 2]), (13, .iconst 1, []), (14, .invokestatic 0, [236, 3]), (17, .iconst 0, []), (18, .istore 1, []), (19, .iconst 0, []), (20, .istore 2, []), (21, .nop, [1])],
  [(21, .iload 2, []), (22, .aload 0, []), (23, .getfield 0, [6, 2]), (26, .if_icmp .ge 0, [5]), (29, .iload 1, []), (30, .iload 2, []), (31, .ifCond .eq 0, [2]), (34, .aload 0, []), (35, .getfield 0, [6, 1]), (38, .iload 2, []), (39, .iaload, []), (40, .aload 0, []), (41, .getfield 0, [6, 1]), (44, .iload 2, []), (45, .iconst 1, []), (46, .isub, []), (47, .iaload, []), (48, .if_icmp .eq 0, [3]), (51, .nop, [2])],
  [(51, .iconst 1, []), (52, .goto 0, [4])],
  [(55, .iconst 0, []), (56, .nop, [4])],
  [(56, .iadd, []), (57, .istore 1, []), (58, .iinc 2 1, []), (61, .goto 0, [1])],
  [(64, .iload 1, []), (65, .ireturn, [])]]
abbrev m_Mo_runs : Nat := 239
noncomputable def bk_Mo_runs : List (List AI) := [
  [(0, .iconst 240, []), (3, .newarray .int, [0]), (5, .astore 1, []), (6, .iconst 0, []), (7, .istore 2, []), (8, .iconst 0, []), (9, .istore 3, []), (10, .nop, [1])],
  [(10, .iload 3, []), (11, .aload 0, []), (12, .getfield 0, [6, 2]), (15, .if_icmp .ge 0, [4]), (18, .iload 3, []), (19, .ifCond .le 0, [2]), (22, .aload 0, []), (23, .getfield 0, [6, 1]), (26, .iload 3, []), (27, .iaload, []), (28, .aload 0, []), (29, .getfield 0, [6, 1]), (32, .iload 3, []), (33, .iconst 1, []), (34, .isub, []), (35, .iaload, []), (36, .if_icmp .ne 0, [2]), (39, .aload 1, []), (40, .iload 2, []), (41, .iconst 1, []), (42, .isub, []), (43, .iaload, []), (44, .iconst 25, []), (46, .if_icmp .ge 0, [2]), (49, .aload 1, []), (50, .iload 2, []), (51, .iconst 1, []), (52, .isub, []), (53, .dup2, []), (54, .iaload, []), (55, .iconst 1, []), (56, .iadd, []), (57, .iastore, []), (58, .goto 0, [3])],
  [(61, .aload 1, []), (62, .iload 2, []), (63, .aload 0, []), (64, .getfield 0, [6, 1]), (67, .iload 3, []), (68, .iaload, []), (69, .iastore, []), (70, .aload 1, []), (71, .iload 2, []), (72, .iconst 1, []), (73, .iadd, []), (74, .iconst 0, []), (75, .iastore, []), (76, .iinc 2 2, []), (79, .nop, [3])],
  [(79, .iinc 3 1, []), (82, .goto 0, [1])],
  [(85, .aload 0, []), (86, .iload 2, []), (87, .iconst 120, []), (89, .if_icmp .gt 0, [5]), (92, .iconst 1, []), (93, .goto 0, [6])],
  [(96, .iconst 0, []), (97, .nop, [6])],
  [(97, .iconst 1, []), (98, .invokevirtual 0, [157, 3, 6]), (101, .ifCond .eq 0, [7]), (104, .iconst 0, []), (105, .goto 0, [8])],
  [(108, .aload 0, []), (109, .aload 1, []), (110, .iload 2, []), (111, .invokevirtual 0, [240, 3, 6]), (114, .nop, [8])],
  [(114, .ireturn, [])]]
abbrev m_Mo_becomes : Nat := 240
noncomputable def bk_Mo_becomes : List (List AI) := [
  [(0, .iconst 0, []), (1, .istore 3, []), (2, .nop, [1])],
  [(2, .iload 3, []), (3, .iload 2, []), (4, .if_icmp .ge 0, [2]), (7, .aload 0, []), (8, .getfield 0, [6, 1]), (11, .iload 3, []), (12, .aload 1, []), (13, .iload 3, []), (14, .iaload, []), (15, .iastore, []), (16, .iinc 3 1, []), (19, .goto 0, [1])],
  [(22, .aload 0, []), (23, .iload 2, []), (24, .putfield 0, [6, 2, 0]), (27, .iload 2, []), (28, .ireturn, [])]]
abbrev m_Mo_unruns : Nat := 241
noncomputable def bk_Mo_unruns : List (List AI) := [
  [(0, .aload 0, []), (1, .aload 0, []), (2, .getfield 0, [6, 2]), (5, .iconst 2, []), (6, .irem, []), (7, .ifCond .ne 0, [1]), (10, .iconst 1, []), (11, .goto 0, [2])],
  [(14, .iconst 0, []), (15, .nop, [2])],
  [(15, .iconst 1, []), (16, .invokevirtual 0, [157, 3, 6]), (19, .ifCond .eq 0, [3]), (22, .iconst 0, []), (23, .ireturn, [])],
  [(24, .iconst 3120, []), (27, .newarray .int, [0]), (29, .astore 1, []), (30, .iconst 0, []), (31, .istore 2, []), (32, .iconst 0, []), (33, .istore 3, []), (34, .nop, [4])],
  [(34, .iload 3, []), (35, .aload 0, []), (36, .getfield 0, [6, 2]), (39, .if_icmp .ge 0, [7]), (42, .iconst 0, []), (43, .istore 4, []), (45, .nop, [5])],
  [(45, .iload 4, []), (47, .aload 0, []), (48, .getfield 0, [6, 1]), (51, .iload 3, []), (52, .iconst 1, []), (53, .iadd, []), (54, .iaload, []), (55, .if_icmp .gt 0, [6]), (58, .aload 1, []), (59, .iload 2, []), (60, .aload 0, []), (61, .getfield 0, [6, 1]), (64, .iload 3, []), (65, .iaload, []), (66, .iastore, []), (67, .iinc 2 1, []), (70, .iinc 4 1, []), (73, .goto 0, [5])],
  [(76, .iinc 3 2, []), (79, .goto 0, [4])],
  [(82, .aload 0, []), (83, .iload 2, []), (84, .iconst 120, []), (86, .if_icmp .gt 0, [8]), (89, .iconst 1, []), (90, .goto 0, [9])],
  [(93, .iconst 0, []), (94, .nop, [9])],
  [(94, .iconst 2, []), (95, .invokevirtual 0, [157, 3, 6]), (98, .ifCond .eq 0, [10]), (101, .iconst 0, []), (102, .goto 0, [11])],
  [(105, .aload 0, []), (106, .aload 1, []), (107, .iload 2, []), (108, .invokevirtual 0, [240, 3, 6]), (111, .nop, [11])],
  [(111, .ireturn, [])]]
abbrev m_Mo_meanLength : Nat := 242
noncomputable def bk_Mo_meanLength : List (List AI) := [
  [(0, .iconst 0, []), (1, .istore 2, []), (2, .aload 0, []), (3, .getfield 0, [6, 0]), (6, .astore 3, []), (7, .aload 3, []), (8, .arraylength, []), (9, .istore 4, []), (11, .iconst 0, []), (12, .istore 5, []), (14, .nop, [1])],
  [(14, .iload 5, []), (16, .iload 4, []), (18, .if_icmp .ge 0, [2]), (21, .aload 3, []), (22, .iload 5, []), (24, .iaload, []), (25, .istore 6, []), (27, .iload 2, []), (28, .iload 6, []), (30, .iadd, []), (31, .istore 2, []), (32, .iinc 5 1, []), (35, .goto 0, [1])],
  [(38, .aload 0, []), (39, .aload 0, []), (40, .iload 1, []), (41, .invokevirtual 0, [160, 2, 6]), (44, .iconst 1, []), (45, .invokevirtual 0, [157, 3, 6]), (48, .ifCond .ne 0, [5]), (51, .aload 0, []), (52, .aload 0, []), (53, .iload 1, []), (54, .invokevirtual 0, [199, 2, 6]), (57, .iconst 2, []), (58, .invokevirtual 0, [157, 3, 6]), (61, .ifCond .ne 0, [5]), (64, .aload 0, []), (65, .iload 2, []), (66, .ifCond .le 0, [3]), (69, .iconst 1, []), (70, .goto 0, [4])],
  [(73, .iconst 0, []), (74, .nop, [4])],
  [(74, .iconst 3, []), (75, .invokevirtual 0, [157, 3, 6]), (78, .ifCond .eq 0, [6]), (81, .nop, [5])],
  [(81, .dconst 0, []), (82, .dreturn, [])],
  [(83, .aload 0, []), (84, .getfield 0, [6, 0]), (87, .aload 0, []), (88, .getfield 0, [6, 4]), (91, .iload 1, []), (92, .aaload, []), (93, .invokestatic 0, [173, 2]), (96, .i2d, []), (97, .iload 2, []), (98, .i2d, []), (99, .ddiv, []), (100, .dreturn, [])]]
abbrev m_Mo_fullShare : Nat := 243
noncomputable def bk_Mo_fullShare : List (List AI) := [
  [(0, .iconst 0, []), (1, .istore 1, []), (2, .iconst 0, []), (3, .istore 2, []), (4, .iconst 0, []), (5, .istore 3, []), (6, .nop, [1])],
  [(6, .iload 3, []), (7, .aload 0, []), (8, .getfield 0, [6, 6]), (11, .if_icmp .ge 0, [6]), (14, .iload 1, []), (15, .aload 0, []), (16, .getfield 0, [6, 3]), (19, .iload 3, []), (20, .caload, []), (21, .iconst 116, []), (23, .if_icmp .eq 0, [2]), (26, .iconst 1, []), (27, .goto 0, [3])],
  [(30, .iconst 0, []), (31, .nop, [3])],
  [(31, .iadd, []), (32, .istore 1, []), (33, .iload 2, []), (34, .aload 0, []), (35, .getfield 0, [6, 3]), (38, .iload 3, []), (39, .caload, []), (40, .iconst 116, []), (42, .if_icmp .eq 0, [4]), (45, .aload 0, []), (46, .getfield 0, [6, 4]), (49, .iload 3, []), (50, .aaload, []), (51, .ldc2_w 0, [2, 0]), (54, .invokestatic 0, [186, 2]), (57, .ldc2_w 0, [33554432, 0]), (60, .lcmp, []), (61, .ifCond .ne 0, [4]), (64, .iconst 1, []), (65, .goto 0, [5])],
  [(68, .iconst 0, []), (69, .nop, [5])],
  [(69, .iadd, []), (70, .istore 2, []), (71, .iinc 3 1, []), (74, .goto 0, [1])],
  [(77, .aload 0, []), (78, .iload 1, []), (79, .ifCond .le 0, [7]), (82, .iconst 1, []), (83, .goto 0, [8])],
  [(86, .iconst 0, []), (87, .nop, [8])],
  [(87, .iconst 1, []), (88, .invokevirtual 0, [157, 3, 6]), (91, .ifCond .eq 0, [9]), (94, .fconst 0, []), (95, .goto 0, [10])],
  [(98, .iload 2, []), (99, .i2f, []), (100, .iload 1, []), (101, .i2f, []), (102, .fdiv, []), (103, .nop, [10])],
  [(103, .freturn, [])]]
abbrev m_Mo_checksum : Nat := 244
noncomputable def bk_Mo_checksum : List (List AI) := [
  [(0, .aload 0, []), (1, .iconst 0, []), (2, .putfield 0, [6, 10, 0]), (5, .ldc2_w 0, [7, 0]), (8, .lstore 1, []), (9, .aload 0, []), (10, .getfield 0, [6, 0]), (13, .astore 3, []), (14, .aload 3, []), (15, .arraylength, []), (16, .istore 4, []), (18, .iconst 0, []), (19, .istore 5, []), (21, .nop, [1])],
  [(21, .iload 5, []), (23, .iload 4, []), (25, .if_icmp .ge 0, [2]), (28, .aload 3, []), (29, .iload 5, []), (31, .iaload, []), (32, .istore 6, []), (34, .ldc2_w 0, [31, 0]), (37, .lload 1, []), (38, .lmul, []), (39, .iload 6, []), (41, .i2l, []), (42, .ladd, []), (43, .lstore 1, []), (44, .iinc 5 1, []), (47, .goto 0, [1])],
  [(50, .iconst 0, []), (51, .istore 3, []), (52, .nop, [3])],
  [(52, .iload 3, []), (53, .aload 0, []), (54, .getfield 0, [6, 2]), (57, .if_icmp .ge 0, [4]), (60, .ldc2_w 0, [31, 0]), (63, .lload 1, []), (64, .lmul, []), (65, .aload 0, []), (66, .getfield 0, [6, 1]), (69, .iload 3, []), (70, .iaload, []), (71, .i2l, []), (72, .ladd, []), (73, .lstore 1, []), (74, .iinc 3 1, []), (77, .goto 0, [3])],
  [(80, .iconst 0, []), (81, .istore 3, []), (82, .nop, [5])],
  [(82, .iload 3, []), (83, .aload 0, []), (84, .getfield 0, [6, 6]), (87, .if_icmp .ge 0, [8]), (90, .aload 0, []), (91, .getfield 0, [6, 4]), (94, .iload 3, []), (95, .aaload, []), (96, .astore 4, []), (98, .aload 4, []), (100, .arraylength, []), (101, .istore 5, []), (103, .iconst 0, []), (104, .istore 6, []), (106, .nop, [6])],
  [(106, .iload 6, []), (108, .iload 5, []), (110, .if_icmp .ge 0, [7]), (113, .aload 4, []), (115, .iload 6, []), (117, .iaload, []), (118, .istore 7, []), (120, .ldc2_w 0, [31, 0]), (123, .lload 1, []), (124, .lmul, []), (125, .iload 7, []), (127, .i2l, []), (128, .ladd, []), (129, .lstore 1, []), (130, .iinc 6 1, []), (133, .goto 0, [6])],
  [(136, .iinc 3 1, []), (139, .goto 0, [5])],
  [(142, .iconst 0, []), (143, .istore 3, []), (144, .nop, [9])],
  [(144, .iload 3, []), (145, .aload 0, []), (146, .getfield 0, [6, 8]), (149, .if_icmp .ge 0, [10]), (152, .ldc2_w 0, [31, 0]), (155, .lload 1, []), (156, .lmul, []), (157, .aload 0, []), (158, .getfield 0, [6, 7]), (161, .iload 3, []), (162, .iaload, []), (163, .i2l, []), (164, .ladd, []), (165, .lstore 1, []), (166, .iinc 3 1, []), (169, .goto 0, [9])],
  [(172, .lload 1, []), (173, .lreturn, [])]]
abbrev m_Mo_isSound : Nat := 245
noncomputable def bk_Mo_isSound : List (List AI) := [
  [(0, .aload 0, []), (1, .iconst 0, []), (2, .putfield 0, [6, 10, 0]), (5, .iconst 1, []), (6, .istore 1, []), (7, .iconst 0, []), (8, .istore 2, []), (9, .nop, [1])],
  [(9, .iload 2, []), (10, .aload 0, []), (11, .getfield 0, [6, 6]), (14, .if_icmp .ge 0, [6]), (17, .aload 0, []), (18, .getfield 0, [6, 4]), (21, .iload 2, []), (22, .aaload, []), (23, .aload 0, []), (24, .iload 2, []), (25, .invokevirtual 0, [192, 2, 6]), (28, .i2l, []), (29, .invokestatic 0, [186, 2]), (32, .lstore 3, []), (33, .iload 1, []), (34, .ifCond .eq 0, [4]), (37, .aload 0, []), (38, .getfield 0, [6, 3]), (41, .iload 2, []), (42, .caload, []), (43, .iconst 116, []), (45, .if_icmp .eq 0, [3]), (48, .aload 0, []), (49, .getfield 0, [6, 3]), (52, .iload 2, []), (53, .caload, []), (54, .iconst 107, []), (56, .if_icmp .ne 0, [2]), (59, .lload 3, []), (60, .ldc2_w 0, [33554432, 0]), (63, .lcmp, []), (64, .ifCond .gt 0, [4]), (67, .goto 0, [3])],
  [(70, .lload 3, []), (71, .ldc2_w 0, [33554432, 0]), (74, .lcmp, []), (75, .ifCond .ne 0, [4]), (78, .nop, [3])],
  [(78, .iconst 1, []), (79, .goto 0, [5])],
  [(82, .iconst 0, []), (83, .nop, [5])],
  [(83, .istore 1, []), (84, .iinc 2 1, []), (87, .goto 0, [1])],
  [(90, .iconst 120, []), (92, .newarray .int, [0]), (94, .astore 2, []), (95, .iconst 4200, []), (98, .newarray .int, [0]), (100, .astore 3, []), (101, .aload 0, []), (102, .aload 0, []), (103, .getfield 0, [6, 1]), (106, .aload 0, []), (107, .getfield 0, [6, 2]), (110, .aload 3, []), (111, .invokevirtual 0, [222, 4, 6]), (114, .istore 4, []), (116, .aload 0, []), (117, .aload 3, []), (118, .iload 4, []), (120, .aload 0, []), (121, .getfield 0, [6, 2]), (124, .aload 2, []), (125, .invokevirtual 0, [223, 5, 6]), (128, .istore 5, []), (130, .iload 1, []), (131, .ifCond .eq 0, [7]), (134, .iload 5, []), (136, .aload 0, []), (137, .getfield 0, [6, 2]), (140, .if_icmp .ne 0, [7]), (143, .iconst 1, []), (144, .goto 0, [8])],
  [(147, .iconst 0, []), (148, .nop, [8])],
  [(148, .istore 1, []), (149, .iconst 0, []), (150, .istore 6, []), (152, .nop, [9])],
  [(152, .iload 6, []), (154, .iload 5, []), (156, .if_icmp .ge 0, [12]), (159, .iload 1, []), (160, .ifCond .eq 0, [10]), (163, .aload 2, []), (164, .iload 6, []), (166, .iaload, []), (167, .aload 0, []), (168, .getfield 0, [6, 1]), (171, .iload 6, []), (173, .iaload, []), (174, .if_icmp .ne 0, [10]), (177, .iconst 1, []), (178, .goto 0, [11])],
  [(181, .iconst 0, []), (182, .nop, [11])],
  [(182, .istore 1, []), (183, .iinc 6 1, []), (186, .goto 0, [9])],
  [(189, .ldc 0, [2147483647]), (191, .istore 6, []), (193, .iconst 1, []), (194, .istore 7, []), (196, .nop, [13])],
  [(196, .iload 7, []), (198, .iconst 25, []), (200, .if_icmp .gt 0, [17]), (203, .aload 0, []), (204, .getfield 0, [6, 0]), (207, .invokestatic 0, [168, 1]), (210, .ifCond .le 0, [17]), (213, .aload 0, []), (214, .getfield 0, [6, 0]), (217, .invokestatic 0, [168, 1]), (220, .iload 7, []), (222, .invokestatic 0, [182, 2]), (225, .ifCond .eq 0, [16]), (228, .aload 0, []), (229, .getfield 0, [6, 0]), (232, .aload 0, []), (233, .aload 0, []), (234, .getfield 0, [6, 0]), (237, .iload 7, []), (239, .aload 0, []), (240, .getfield 0, [6, 12]), (243, .invokevirtual 0, [174, 4, 6]), (246, .invokestatic 0, [173, 2]), (249, .istore 8, []), (251, .iload 1, []), (252, .ifCond .eq 0, [14]), (255, .iload 8, []), (257, .iload 6, []), (259, .if_icmp .gt 0, [14]), (262, .iload 8, []), (264, .aload 0, []), (265, .aload 0, []), (266, .getfield 0, [6, 0]), (269, .invokevirtual 0, [203, 2, 6]), (272, .if_icmp .lt 0, [14]), (275, .iconst 1, []), (276, .goto 0, [15])],
  [(279, .iconst 0, []), (280, .nop, [15])],
  [(280, .istore 1, []), (281, .iload 8, []), (283, .istore 6, []), (285, .nop, [16])],
  [(285, .iinc 7 1, []), (288, .goto 0, [13])],
  [(291, .iload 1, []), (292, .ifCond .eq 0, [19]), (295, .aload 0, []), (296, .getfield 0, [6, 0]), (299, .invokestatic 0, [168, 1]), (302, .ifCond .eq 0, [18]), (305, .aload 0, []), (306, .getfield 0, [6, 0]), (309, .aload 0, []), (310, .getfield 0, [6, 0]), (313, .invokestatic 0, [176, 1]), (316, .invokestatic 0, [173, 2]), (319, .aload 0, []), (320, .aload 0, []), (321, .getfield 0, [6, 0]), (324, .invokevirtual 0, [203, 2, 6]), (327, .if_icmp .lt 0, [19]), (330, .nop, [18])],
  [(330, .iconst 1, []), (331, .goto 0, [20])],
  [(334, .iconst 0, []), (335, .nop, [20])],
  [(335, .ireturn, [2])]]
abbrev m_AL_init : Nat := 246
noncomputable def bk_AL_init : List (List AI) := [
  [(0, .aload 0, []), (1, .invokespecial 0, [255, 1]), (4, .aload 0, []), (5, .getstatic 0, []), (8, .putfield 0, [7, 1, 2]), (11, .return_, [])]]
abbrev m_AL_grow1 : Nat := 247
noncomputable def bk_AL_grow1 : List (List AI) := [
  [(0, .aload 0, []), (1, .getfield 0, [7, 1]), (4, .arraylength, []), (5, .istore 2, []), (6, .iload 2, []), (7, .ifCond .gt 0, [1]), (10, .aload 0, []), (11, .getfield 0, [7, 1]), (14, .getstatic 0, []), (17, .if_acmp .eq 0, [2]), (20, .nop, [1])],
  [(20, .iload 2, []), (21, .iload 1, []), (22, .iload 2, []), (23, .isub, []), (24, .iload 2, []), (25, .iconst 1, []), (26, .ishr, []), (27, .invokestatic 0, [259, 3]), (30, .istore 3, []), (31, .aload 0, []), (32, .aload 0, []), (33, .getfield 0, [7, 1]), (36, .iload 3, []), (37, .invokestatic 0, []), (40, .dup_x1, []), (41, .putfield 0, [7, 1, 2]), (44, .areturn, [])],
  [(45, .aload 0, []), (46, .iconst 10, []), (48, .iload 1, []), (49, .invokestatic 0, [0]), (52, .anewarray 0, [0]), (55, .dup_x1, []), (56, .putfield 0, [7, 1, 2]), (59, .areturn, [])]]
abbrev m_AL_grow2 : Nat := 248
noncomputable def bk_AL_grow2 : List (List AI) := [
  [(0, .aload 0, []), (1, .aload 0, []), (2, .getfield 0, [7, 2]), (5, .iconst 1, []), (6, .iadd, []), (7, .invokevirtual 0, [247, 2, 7]), (10, .areturn, [])]]
abbrev m_AL_size : Nat := 249
noncomputable def bk_AL_size : List (List AI) := [
  [(0, .aload 0, []), (1, .getfield 0, [7, 2]), (4, .ireturn, [])]]
abbrev m_AL_elementData : Nat := 250
noncomputable def bk_AL_elementData : List (List AI) := [
  [(0, .aload 0, []), (1, .getfield 0, [7, 1]), (4, .iload 1, []), (5, .aaload, []), (6, .areturn, [])]]
abbrev m_AL_get : Nat := 251
noncomputable def bk_AL_get : List (List AI) := [
  [(0, .iload 1, []), (1, .aload 0, []), (2, .getfield 0, [7, 2]), (5, .invokestatic 0, [257, 2]), (8, .pop, []), (9, .aload 0, []), (10, .iload 1, []), (11, .invokevirtual 0, [250, 2, 7]), (14, .areturn, [])]]
abbrev m_AL_add1 : Nat := 252
noncomputable def bk_AL_add1 : List (List AI) := [
  [(0, .iload 3, []), (1, .aload 2, []), (2, .arraylength, []), (3, .if_icmp .ne 0, [1]), (6, .aload 0, []), (7, .invokevirtual 0, [248, 1, 7]), (10, .astore 2, []), (11, .nop, [1])],
  [(11, .aload 2, []), (12, .iload 3, []), (13, .aload 1, []), (14, .aastore, []), (15, .aload 0, []), (16, .iload 3, []), (17, .iconst 1, []), (18, .iadd, []), (19, .putfield 0, [7, 2, 0]), (22, .return_, [])]]
abbrev m_AL_add2 : Nat := 253
noncomputable def bk_AL_add2 : List (List AI) := [
  [(0, .aload 0, []), (1, .dup, []), (2, .getfield 0, [7, 0]), (5, .iconst 1, []), (6, .iadd, []), (7, .putfield 0, [7, 0, 0]), (10, .aload 0, []), (11, .aload 1, []), (12, .aload 0, []), (13, .getfield 0, [7, 1]), (16, .aload 0, []), (17, .getfield 0, [7, 2]), (20, .invokevirtual 0, [252, 4, 7]), (23, .iconst 1, []), (24, .ireturn, [2])]]
abbrev m_AL_clear : Nat := 254
noncomputable def bk_AL_clear : List (List AI) := [
  [(0, .aload 0, []), (1, .dup, []), (2, .getfield 0, [7, 0]), (5, .iconst 1, []), (6, .iadd, []), (7, .putfield 0, [7, 0, 0]), (10, .aload 0, []), (11, .getfield 0, [7, 1]), (14, .astore 1, []), (15, .aload 0, []), (16, .getfield 0, [7, 2]), (19, .istore 2, []), (20, .aload 0, []), (21, .iconst 0, []), (22, .dup_x1, []), (23, .putfield 0, [7, 2, 0]), (26, .istore 3, []), (27, .nop, [1])],
  [(27, .iload 3, []), (28, .iload 2, []), (29, .if_icmp .ge 0, [2]), (32, .aload 1, []), (33, .iload 3, []), (34, .aconst_null, []), (35, .aastore, []), (36, .iinc 3 1, []), (39, .goto 0, [1])],
  [(42, .return_, [])]]
abbrev m_ABL_init : Nat := 255
noncomputable def bk_ABL_init : List (List AI) := [
  [(0, .aload 0, []), (1, .invokespecial 0, [256, 1]), (4, .aload 0, []), (5, .iconst 0, []), (6, .putfield 0, [7, 0, 0]), (9, .return_, [])]]
abbrev m_ABC_init : Nat := 256
noncomputable def bk_ABC_init : List (List AI) := [
  [(0, .aload 0, []), (1, .invokespecial 0, []), (4, .return_, [])]]
abbrev m_Ob_checkIndex : Nat := 257
noncomputable def bk_Ob_checkIndex : List (List AI) := [
  [(0, .iload 0, []), (1, .iload 1, []), (2, .aconst_null, []), (3, .invokestatic 0, [258, 3]), (6, .ireturn, [])]]
abbrev m_Pre_checkIndex : Nat := 258
noncomputable def bk_Pre_checkIndex : List (List AI) := [
  [(0, .iload 0, []), (1, .ifCond .lt 0, [1]), (4, .iload 0, []), (5, .iload 1, []), (6, .if_icmp .lt 0, [2]), (9, .nop, [1])],
  [(9, .aload 2, []), (10, .iload 0, []), (11, .iload 1, []), (12, .athrow, [])],
  [(16, .iload 0, []), (17, .ireturn, [])]]
abbrev m_AS_newLength : Nat := 259
noncomputable def bk_AS_newLength : List (List AI) := [
  [(0, .iload 0, []), (1, .iload 1, []), (2, .iload 2, []), (3, .invokestatic 0, [0]), (6, .iadd, []), (7, .istore 3, []), (8, .iconst 0, []), (9, .iload 3, []), (10, .if_icmp .ge 0, [1]), (13, .iload 3, []), (14, .ldc 0, [2147483639]), (16, .if_icmp .gt 0, [1]), (19, .iload 3, []), (20, .ireturn, [])],
  [(21, .iload 0, []), (22, .iload 1, []), (23, .athrow, [])]]
abbrev m_La_type : Nat := 260
noncomputable def bk_La_type : List (List AI) := [
  [(0, .aload 2, []), (1, .iconst 0, []), (2, .aload 0, []), (3, .iload 1, []), (4, .invokevirtual 0, [59, 2, 5, 8, 1, 9, 2]), (7, .i2l, []), (8, .lastore, []), (9, .goto 0, [3])],
  [(12, .astore 3, []), (13, .iconst 1, []), (14, .ireturn, [])],
  [(15, .astore 3, []), (16, .iconst 2, []), (17, .ireturn, [])],
  [(18, .iconst 0, []), (19, .ireturn, [])]]
abbrev m_La_typeMore : Nat := 261
noncomputable def bk_La_typeMore : List (List AI) := [
  [(0, .aload 10, []), (2, .iconst 0, []), (3, .aload 0, []), (4, .iload 1, []), (5, .iload 2, []), (6, .iload 3, []), (7, .iload 4, []), (9, .iload 5, []), (11, .iload 6, []), (13, .iload 7, []), (15, .iload 8, []), (17, .iload 9, []), (19, .invokevirtual 0, [60, 10, 5, 8, 1, 9, 2]), (22, .i2l, []), (23, .lastore, []), (24, .goto 0, [3])],
  [(27, .astore 11, []), (29, .iconst 1, []), (30, .ireturn, [])],
  [(31, .astore 11, []), (33, .iconst 2, []), (34, .ireturn, [])],
  [(35, .iconst 0, []), (36, .ireturn, [])]]
abbrev m_La_typed : Nat := 262
noncomputable def bk_La_typed : List (List AI) := [
  [(0, .aload 2, []), (1, .iconst 0, []), (2, .aload 0, []), (3, .iload 1, []), (4, .invokevirtual 0, [63, 2, 5, 10, 1]), (7, .i2l, []), (8, .lastore, []), (9, .goto 0, [2])],
  [(12, .astore 3, []), (13, .iconst 1, []), (14, .ireturn, [])],
  [(15, .iconst 0, []), (16, .ireturn, [])]]
abbrev m_La_set : Nat := 263
noncomputable def bk_La_set : List (List AI) := [
  [(0, .aload 3, []), (1, .iconst 0, []), (2, .aload 0, []), (3, .iload 1, []), (4, .iload 2, []), (5, .invokevirtual 0, [64, 3, 5, 8, 1]), (8, .i2l, []), (9, .lastore, []), (10, .goto 0, [2])],
  [(13, .astore 4, []), (15, .iconst 1, []), (16, .ireturn, [])],
  [(17, .iconst 0, []), (18, .ireturn, [])]]
abbrev m_La_count : Nat := 264
noncomputable def bk_La_count : List (List AI) := [
  [(0, .aload 2, []), (1, .iconst 0, []), (2, .aload 0, []), (3, .iload 1, []), (4, .invokevirtual 0, [65, 2, 5, 8, 1]), (7, .i2l, []), (8, .lastore, []), (9, .goto 0, [2])],
  [(12, .astore 3, []), (13, .iconst 1, []), (14, .ireturn, [])],
  [(15, .iconst 0, []), (16, .ireturn, [])]]
abbrev m_La_least : Nat := 265
noncomputable def bk_La_least : List (List AI) := [
  [(0, .aload 1, []), (1, .iconst 0, []), (2, .aload 0, []), (3, .invokevirtual 0, [68, 1, 5, 11, 1, 9, 2]), (6, .i2l, []), (7, .lastore, []), (8, .goto 0, [3])],
  [(11, .astore 2, []), (12, .iconst 1, []), (13, .ireturn, [])],
  [(14, .astore 2, []), (15, .iconst 2, []), (16, .ireturn, [])],
  [(17, .iconst 0, []), (18, .ireturn, [])]]
abbrev m_La_bounded : Nat := 266
noncomputable def bk_La_bounded : List (List AI) := [
  [(0, .aload 2, []), (1, .iconst 0, []), (2, .aload 0, []), (3, .iload 1, []), (4, .invokevirtual 0, [69, 2, 5, 8, 1, 11, 2, 12, 3, 9, 4]), (7, .i2l, []), (8, .lastore, []), (9, .goto 0, [5])],
  [(12, .astore 3, []), (13, .iconst 1, []), (14, .ireturn, [])],
  [(15, .astore 3, []), (16, .iconst 2, []), (17, .ireturn, [])],
  [(18, .astore 3, []), (19, .iconst 3, []), (20, .ireturn, [])],
  [(21, .astore 3, []), (22, .iconst 4, []), (23, .ireturn, [])],
  [(24, .iconst 0, []), (25, .ireturn, [])]]
abbrev m_La_ordered : Nat := 267
noncomputable def bk_La_ordered : List (List AI) := [
  [(0, .aload 1, []), (1, .iconst 0, []), (2, .aload 0, []), (3, .invokevirtual 0, [70, 1, 5, 11, 1, 9, 2]), (6, .i2l, []), (7, .lastore, []), (8, .goto 0, [3])],
  [(11, .astore 2, []), (12, .iconst 1, []), (13, .ireturn, [])],
  [(14, .astore 2, []), (15, .iconst 2, []), (16, .ireturn, [])],
  [(17, .iconst 0, []), (18, .ireturn, [])]]
abbrev m_La_triple : Nat := 268
noncomputable def bk_La_triple : List (List AI) := [
  [(0, .aload 1, []), (1, .iconst 0, []), (2, .aload 0, []), (3, .invokevirtual 0, [71, 1, 5, 11, 1, 9, 2]), (6, .i2l, []), (7, .lastore, []), (8, .goto 0, [3])],
  [(11, .astore 2, []), (12, .iconst 1, []), (13, .ireturn, [])],
  [(14, .astore 2, []), (15, .iconst 2, []), (16, .ireturn, [])],
  [(17, .iconst 0, []), (18, .ireturn, [])]]
abbrev m_La_byLengths : Nat := 269
noncomputable def bk_La_byLengths : List (List AI) := [
  [(0, .aload 1, []), (1, .iconst 0, []), (2, .aload 0, []), (3, .invokevirtual 0, [72, 1, 5, 8, 1, 11, 2, 12, 3, 9, 4]), (6, .i2l, []), (7, .lastore, []), (8, .goto 0, [5])],
  [(11, .astore 2, []), (12, .iconst 1, []), (13, .ireturn, [])],
  [(14, .astore 2, []), (15, .iconst 2, []), (16, .ireturn, [])],
  [(17, .astore 2, []), (18, .iconst 3, []), (19, .ireturn, [])],
  [(20, .astore 2, []), (21, .iconst 4, []), (22, .ireturn, [])],
  [(23, .iconst 0, []), (24, .ireturn, [])]]
abbrev m_La_kindOf : Nat := 270
noncomputable def bk_La_kindOf : List (List AI) := [
  [(0, .aload 2, []), (1, .iconst 0, []), (2, .aload 0, []), (3, .iload 1, []), (4, .invokevirtual 0, [75, 2, 5, 10, 1]), (7, .i2l, []), (8, .lastore, []), (9, .goto 0, [2])],
  [(12, .astore 3, []), (13, .iconst 1, []), (14, .ireturn, [])],
  [(15, .iconst 0, []), (16, .ireturn, [])]]
abbrev m_La_signs : Nat := 271
noncomputable def bk_La_signs : List (List AI) := [
  [(0, .aload 2, []), (1, .iconst 0, []), (2, .aload 0, []), (3, .iload 1, []), (4, .invokevirtual 0, [76, 2, 5, 10, 1]), (7, .i2l, []), (8, .lastore, []), (9, .goto 0, [2])],
  [(12, .astore 3, []), (13, .iconst 1, []), (14, .ireturn, [])],
  [(15, .iconst 0, []), (16, .ireturn, [])]]
abbrev m_La_signAt : Nat := 272
noncomputable def bk_La_signAt : List (List AI) := [
  [(0, .aload 3, []), (1, .iconst 0, []), (2, .aload 0, []), (3, .iload 1, []), (4, .iload 2, []), (5, .invokevirtual 0, [77, 3, 5, 10, 1]), (8, .i2l, []), (9, .lastore, []), (10, .goto 0, [2])],
  [(13, .astore 4, []), (15, .iconst 1, []), (16, .ireturn, [])],
  [(17, .iconst 0, []), (18, .ireturn, [])]]
abbrev m_La_wordLength : Nat := 273
noncomputable def bk_La_wordLength : List (List AI) := [
  [(0, .aload 3, []), (1, .iconst 0, []), (2, .aload 0, []), (3, .iload 1, []), (4, .iload 2, []), (5, .invokevirtual 0, [78, 3, 5, 10, 1, 8, 2, 11, 3]), (8, .i2l, []), (9, .lastore, []), (10, .goto 0, [4])],
  [(13, .astore 4, []), (15, .iconst 1, []), (16, .ireturn, [])],
  [(17, .astore 4, []), (19, .iconst 2, []), (20, .ireturn, [])],
  [(21, .astore 4, []), (23, .iconst 3, []), (24, .ireturn, [])],
  [(25, .iconst 0, []), (26, .ireturn, [])]]
abbrev m_La_wordBit : Nat := 274
noncomputable def bk_La_wordBit : List (List AI) := [
  [(0, .aload 4, []), (2, .iconst 0, []), (3, .aload 0, []), (4, .iload 1, []), (5, .iload 2, []), (6, .iload 3, []), (7, .invokevirtual 0, [79, 4, 5, 10, 1, 8, 2, 11, 3]), (10, .i2l, []), (11, .lastore, []), (12, .goto 0, [4])],
  [(15, .astore 5, []), (17, .iconst 1, []), (18, .ireturn, [])],
  [(19, .astore 5, []), (21, .iconst 2, []), (22, .ireturn, [])],
  [(23, .astore 5, []), (25, .iconst 3, []), (26, .ireturn, [])],
  [(27, .iconst 0, []), (28, .ireturn, [])]]
abbrev m_La_longest : Nat := 275
noncomputable def bk_La_longest : List (List AI) := [
  [(0, .aload 2, []), (1, .iconst 0, []), (2, .aload 0, []), (3, .iload 1, []), (4, .invokevirtual 0, [80, 2, 5, 10, 1]), (7, .i2l, []), (8, .lastore, []), (9, .goto 0, [2])],
  [(12, .astore 3, []), (13, .iconst 1, []), (14, .ireturn, [])],
  [(15, .iconst 0, []), (16, .ireturn, [])]]
abbrev m_La_bits : Nat := 276
noncomputable def bk_La_bits : List (List AI) := [
  [(0, .aload 2, []), (1, .iconst 0, []), (2, .aload 0, []), (3, .iload 1, []), (4, .invokevirtual 0, [81, 2, 5, 10, 1, 11, 2]), (7, .i2l, []), (8, .lastore, []), (9, .goto 0, [3])],
  [(12, .astore 3, []), (13, .iconst 1, []), (14, .ireturn, [])],
  [(15, .astore 3, []), (16, .iconst 2, []), (17, .ireturn, [])],
  [(18, .iconst 0, []), (19, .ireturn, [])]]
abbrev m_La_sum : Nat := 277
noncomputable def bk_La_sum : List (List AI) := [
  [(0, .aload 2, []), (1, .iconst 0, []), (2, .aload 0, []), (3, .iload 1, []), (4, .invokevirtual 0, [82, 2, 5, 10, 1]), (7, .lastore, []), (8, .goto 0, [2])],
  [(11, .astore 3, []), (12, .iconst 1, []), (13, .ireturn, [])],
  [(14, .iconst 0, []), (15, .ireturn, [])]]
abbrev m_La_lookup : Nat := 278
noncomputable def bk_La_lookup : List (List AI) := [
  [(0, .aload 4, []), (2, .iconst 0, []), (3, .aload 0, []), (4, .iload 1, []), (5, .iload 2, []), (6, .iload 3, []), (7, .invokevirtual 0, [83, 4, 5, 10, 1, 8, 2, 12, 3]), (10, .i2l, []), (11, .lastore, []), (12, .goto 0, [4])],
  [(15, .astore 5, []), (17, .iconst 1, []), (18, .ireturn, [])],
  [(19, .astore 5, []), (21, .iconst 2, []), (22, .ireturn, [])],
  [(23, .astore 5, []), (25, .iconst 3, []), (26, .ireturn, [])],
  [(27, .iconst 0, []), (28, .ireturn, [])]]
abbrev m_La_boundCost : Nat := 279
noncomputable def bk_La_boundCost : List (List AI) := [
  [(0, .aload 2, []), (1, .iconst 0, []), (2, .aload 0, []), (3, .iload 1, []), (4, .invokevirtual 0, [85, 2, 5, 8, 1, 12, 2]), (7, .i2l, []), (8, .lastore, []), (9, .goto 0, [3])],
  [(12, .astore 3, []), (13, .iconst 1, []), (14, .ireturn, [])],
  [(15, .astore 3, []), (16, .iconst 2, []), (17, .ireturn, [])],
  [(18, .iconst 0, []), (19, .ireturn, [])]]
abbrev m_La_blockBits : Nat := 280
noncomputable def bk_La_blockBits : List (List AI) := [
  [(0, .aload 2, []), (1, .iconst 0, []), (2, .aload 0, []), (3, .iload 1, []), (4, .invokevirtual 0, [87, 2, 5, 8, 1]), (7, .i2l, []), (8, .lastore, []), (9, .goto 0, [2])],
  [(12, .astore 3, []), (13, .iconst 1, []), (14, .ireturn, [])],
  [(15, .iconst 0, []), (16, .ireturn, [])]]
abbrev m_La_fewestFor : Nat := 281
noncomputable def bk_La_fewestFor : List (List AI) := [
  [(0, .aload 2, []), (1, .iconst 0, []), (2, .aload 0, []), (3, .iload 1, []), (4, .invokevirtual 0, [88, 2, 5, 8, 1]), (7, .i2l, []), (8, .lastore, []), (9, .goto 0, [2])],
  [(12, .astore 3, []), (13, .iconst 1, []), (14, .ireturn, [])],
  [(15, .iconst 0, []), (16, .ireturn, [])]]
abbrev m_La_countFor : Nat := 282
noncomputable def bk_La_countFor : List (List AI) := [
  [(0, .aload 3, []), (1, .iconst 0, []), (2, .aload 0, []), (3, .iload 1, []), (4, .iload 2, []), (5, .invokevirtual 0, [89, 3, 5, 8, 1, 10, 2]), (8, .i2l, []), (9, .lastore, []), (10, .goto 0, [3])],
  [(13, .astore 4, []), (15, .iconst 1, []), (16, .ireturn, [])],
  [(17, .astore 4, []), (19, .iconst 2, []), (20, .ireturn, [])],
  [(21, .iconst 0, []), (22, .ireturn, [])]]
abbrev m_La_saved : Nat := 283
noncomputable def bk_La_saved : List (List AI) := [
  [(0, .aload 2, []), (1, .iconst 0, []), (2, .aload 0, []), (3, .iload 1, []), (4, .invokevirtual 0, [90, 2, 5, 10, 1]), (7, .i2l, []), (8, .lastore, []), (9, .goto 0, [2])],
  [(12, .astore 3, []), (13, .iconst 1, []), (14, .ireturn, [])],
  [(15, .iconst 0, []), (16, .ireturn, [])]]
abbrev m_La_write : Nat := 284
noncomputable def bk_La_write : List (List AI) := [
  [(0, .aload 2, []), (1, .iconst 0, []), (2, .aload 0, []), (3, .iload 1, []), (4, .invokevirtual 0, [92, 2, 5, 10, 1, 12, 2, 11, 3]), (7, .i2l, []), (8, .lastore, []), (9, .goto 0, [4])],
  [(12, .astore 3, []), (13, .iconst 1, []), (14, .ireturn, [])],
  [(15, .astore 3, []), (16, .iconst 2, []), (17, .ireturn, [])],
  [(18, .astore 3, []), (19, .iconst 3, []), (20, .ireturn, [])],
  [(21, .iconst 0, []), (22, .ireturn, [])]]
abbrev m_La_read : Nat := 285
noncomputable def bk_La_read : List (List AI) := [
  [(0, .aload 2, []), (1, .iconst 0, []), (2, .aload 0, []), (3, .iload 1, []), (4, .invokevirtual 0, [93, 2, 5, 10, 1, 12, 2]), (7, .i2l, []), (8, .lastore, []), (9, .goto 0, [3])],
  [(12, .astore 3, []), (13, .iconst 1, []), (14, .ireturn, [])],
  [(15, .astore 3, []), (16, .iconst 2, []), (17, .ireturn, [])],
  [(18, .iconst 0, []), (19, .ireturn, [])]]
abbrev m_La_bitAt : Nat := 286
noncomputable def bk_La_bitAt : List (List AI) := [
  [(0, .aload 2, []), (1, .iconst 0, []), (2, .aload 0, []), (3, .iload 1, []), (4, .invokevirtual 0, [98, 2, 5, 10, 1]), (7, .i2l, []), (8, .lastore, []), (9, .goto 0, [2])],
  [(12, .astore 3, []), (13, .iconst 1, []), (14, .ireturn, [])],
  [(15, .iconst 0, []), (16, .ireturn, [])]]
abbrev m_La_turn : Nat := 287
noncomputable def bk_La_turn : List (List AI) := [
  [(0, .aload 2, []), (1, .iconst 0, []), (2, .aload 0, []), (3, .iload 1, []), (4, .invokevirtual 0, [99, 2, 5, 10, 1]), (7, .i2l, []), (8, .lastore, []), (9, .goto 0, [2])],
  [(12, .astore 3, []), (13, .iconst 1, []), (14, .ireturn, [])],
  [(15, .iconst 0, []), (16, .ireturn, [])]]
abbrev m_La_byteAt : Nat := 288
noncomputable def bk_La_byteAt : List (List AI) := [
  [(0, .aload 2, []), (1, .iconst 0, []), (2, .aload 0, []), (3, .iload 1, []), (4, .invokevirtual 0, [100, 2, 5, 10, 1]), (7, .i2l, []), (8, .lastore, []), (9, .goto 0, [2])],
  [(12, .astore 3, []), (13, .iconst 1, []), (14, .ireturn, [])],
  [(15, .iconst 0, []), (16, .ireturn, [])]]
abbrev m_La_inStep : Nat := 289
noncomputable def bk_La_inStep : List (List AI) := [
  [(0, .aload 3, []), (1, .iconst 0, []), (2, .aload 0, []), (3, .iload 1, []), (4, .iload 2, []), (5, .invokevirtual 0, [101, 3, 5, 10, 1, 12, 2]), (8, .i2l, []), (9, .lastore, []), (10, .goto 0, [3])],
  [(13, .astore 4, []), (15, .iconst 1, []), (16, .ireturn, [])],
  [(17, .astore 4, []), (19, .iconst 2, []), (20, .ireturn, [])],
  [(21, .iconst 0, []), (22, .ireturn, [])]]
abbrev m_La_lost : Nat := 290
noncomputable def bk_La_lost : List (List AI) := [
  [(0, .aload 3, []), (1, .iconst 0, []), (2, .aload 0, []), (3, .iload 1, []), (4, .iload 2, []), (5, .invokevirtual 0, [102, 3, 5, 10, 1, 12, 2]), (8, .i2l, []), (9, .lastore, []), (10, .goto 0, [3])],
  [(13, .astore 4, []), (15, .iconst 1, []), (16, .ireturn, [])],
  [(17, .astore 4, []), (19, .iconst 2, []), (20, .ireturn, [])],
  [(21, .iconst 0, []), (22, .ireturn, [])]]
abbrev m_La_runs : Nat := 291
noncomputable def bk_La_runs : List (List AI) := [
  [(0, .aload 1, []), (1, .iconst 0, []), (2, .aload 0, []), (3, .invokevirtual 0, [105, 1, 5, 9, 1]), (6, .i2l, []), (7, .lastore, []), (8, .goto 0, [2])],
  [(11, .astore 2, []), (12, .iconst 1, []), (13, .ireturn, [])],
  [(14, .iconst 0, []), (15, .ireturn, [])]]
abbrev m_La_unruns : Nat := 292
noncomputable def bk_La_unruns : List (List AI) := [
  [(0, .aload 1, []), (1, .iconst 0, []), (2, .aload 0, []), (3, .invokevirtual 0, [106, 1, 5, 12, 1, 9, 2]), (6, .i2l, []), (7, .lastore, []), (8, .goto 0, [3])],
  [(11, .astore 2, []), (12, .iconst 1, []), (13, .ireturn, [])],
  [(14, .astore 2, []), (15, .iconst 2, []), (16, .ireturn, [])],
  [(17, .iconst 0, []), (18, .ireturn, [])]]
abbrev m_La_meanLength : Nat := 293
noncomputable def bk_La_meanLength : List (List AI) := [
  [(0, .aload 2, []), (1, .iconst 0, []), (2, .aload 0, []), (3, .iload 1, []), (4, .invokevirtual 0, [107, 2, 5, 10, 1, 11, 2, 13, 3]), (7, .dastore, []), (8, .goto 0, [4])],
  [(11, .astore 3, []), (12, .iconst 1, []), (13, .ireturn, [])],
  [(14, .astore 3, []), (15, .iconst 2, []), (16, .ireturn, [])],
  [(17, .astore 3, []), (18, .iconst 3, []), (19, .ireturn, [])],
  [(20, .iconst 0, []), (21, .ireturn, [])]]
abbrev m_La_fullShare : Nat := 294
noncomputable def bk_La_fullShare : List (List AI) := [
  [(0, .aload 1, []), (1, .iconst 0, []), (2, .aload 0, []), (3, .invokevirtual 0, [108, 1, 5, 13, 1]), (6, .f2d, []), (7, .dastore, []), (8, .goto 0, [2])],
  [(11, .astore 2, []), (12, .iconst 1, []), (13, .ireturn, [])],
  [(14, .iconst 0, []), (15, .ireturn, [])]]
abbrev m_La_law : Nat := 295
set_option maxRecDepth 100000 in
noncomputable def bk_La_law : List (List AI) := [
  [(0, .new 0, [5, 0]), (3, .dup, []), (4, .invokespecial 0, [58, 1]), (7, .astore 1, []), (8, .new 0, [6, 0]), (11, .dup, []), (12, .invokespecial 0, [155, 1]), (15, .astore 2, []), (16, .iconst 1, []), (17, .newarray .int, [3]), (19, .astore 3, []), (20, .iconst 1, []), (21, .newarray .int, [4]), (23, .astore 4, []), (25, .iconst 0, []), (26, .istore 5, []), (28, .nop, [1])],
  [(28, .iload 5, []), (30, .aload 0, []), (31, .arraylength, []), (32, .iconst 10, []), (34, .isub, []), (35, .if_icmp .gt 0, [127]), (38, .aload 0, []), (39, .iload 5, []), (41, .iaload, []), (42, .iconst 63, []), (44, .iand, []), (45, .tableswitch 0 0 51 #[], [126, 2, 5, 8, 9, 10, 13, 16, 19, 20, 21, 24, 27, 30, 33, 36, 37, 38, 41, 44, 47, 50, 53, 56, 59, 62, 65, 66, 69, 70, 73, 76, 79, 82, 83, 86, 89, 90, 91, 92, 93, 96, 99, 102, 105, 108, 109, 110, 113, 116, 120, 124, 125])],
  [(268, .aload 1, []), (269, .aload 0, []), (270, .iload 5, []), (272, .iconst 1, []), (273, .iadd, []), (274, .iaload, []), (275, .i2c, []), (276, .aload 3, []), (277, .invokestatic 0, [260, 3]), (280, .istore 6, []), (282, .aload 2, []), (283, .aload 0, []), (284, .iload 5, []), (286, .iconst 1, []), (287, .iadd, []), (288, .iaload, []), (289, .i2c, []), (290, .invokevirtual 0, [161, 2, 6]), (293, .istore 7, []), (295, .aload 2, []), (296, .invokevirtual 0, [156, 1, 6]), (299, .iload 6, []), (301, .if_icmp .eq 0, [3]), (304, .iconst 0, []), (305, .ireturn, [2])],
  [(306, .iload 6, []), (308, .ifCond .ne 0, [4]), (311, .aload 3, []), (312, .iconst 0, []), (313, .laload, []), (314, .iload 7, []), (316, .i2l, []), (317, .lcmp, []), (318, .ifCond .eq 0, [4]), (321, .iconst 0, []), (322, .ireturn, [2])],
  [(323, .goto 0, [126])],
  [(326, .aload 1, []), (327, .aload 0, []), (328, .iload 5, []), (330, .iconst 1, []), (331, .iadd, []), (332, .iaload, []), (333, .aload 0, []), (334, .iload 5, []), (336, .iconst 2, []), (337, .iadd, []), (338, .iaload, []), (339, .i2c, []), (340, .aload 0, []), (341, .iload 5, []), (343, .iconst 3, []), (344, .iadd, []), (345, .iaload, []), (346, .i2c, []), (347, .aload 0, []), (348, .iload 5, []), (350, .iconst 4, []), (351, .iadd, []), (352, .iaload, []), (353, .i2c, []), (354, .aload 0, []), (355, .iload 5, []), (357, .iconst 5, []), (358, .iadd, []), (359, .iaload, []), (360, .i2c, []), (361, .aload 0, []), (362, .iload 5, []), (364, .iconst 6, []), (366, .iadd, []), (367, .iaload, []), (368, .i2c, []), (369, .aload 0, []), (370, .iload 5, []), (372, .iconst 7, []), (374, .iadd, []), (375, .iaload, []), (376, .i2c, []), (377, .aload 0, []), (378, .iload 5, []), (380, .iconst 8, []), (382, .iadd, []), (383, .iaload, []), (384, .i2c, []), (385, .aload 0, []), (386, .iload 5, []), (388, .iconst 9, []), (390, .iadd, []), (391, .iaload, []), (392, .i2c, []), (393, .aload 3, []), (394, .invokestatic 0, [261, 11]), (397, .istore 6, []), (399, .aload 2, []), (400, .aload 0, []), (401, .iload 5, []), (403, .iconst 1, []), (404, .iadd, []), (405, .iaload, []), (406, .aload 0, []), (407, .iload 5, []), (409, .iconst 2, []), (410, .iadd, []), (411, .iaload, []), (412, .i2c, []), (413, .aload 0, []), (414, .iload 5, []), (416, .iconst 3, []), (417, .iadd, []), (418, .iaload, []), (419, .i2c, []), (420, .aload 0, []), (421, .iload 5, []), (423, .iconst 4, []), (424, .iadd, []), (425, .iaload, []), (426, .i2c, []), (427, .aload 0, []), (428, .iload 5, []), (430, .iconst 5, []), (431, .iadd, []), (432, .iaload, []), (433, .i2c, []), (434, .aload 0, []), (435, .iload 5, []), (437, .iconst 6, []), (439, .iadd, []), (440, .iaload, []), (441, .i2c, []), (442, .aload 0, []), (443, .iload 5, []), (445, .iconst 7, []), (447, .iadd, []), (448, .iaload, []), (449, .i2c, []), (450, .aload 0, []), (451, .iload 5, []), (453, .iconst 8, []), (455, .iadd, []), (456, .iaload, []), (457, .i2c, []), (458, .aload 0, []), (459, .iload 5, []), (461, .iconst 9, []), (463, .iadd, []), (464, .iaload, []), (465, .i2c, []), (466, .invokevirtual 0, [162, 10, 6]), (469, .istore 7, []), (471, .aload 2, []), (472, .invokevirtual 0, [156, 1, 6]), (475, .iload 6, []), (477, .if_icmp .eq 0, [6]), (480, .iconst 0, []), (481, .ireturn, [2])],
  [(482, .iload 6, []), (484, .ifCond .ne 0, [7]), (487, .aload 3, []), (488, .iconst 0, []), (489, .laload, []), (490, .iload 7, []), (492, .i2l, []), (493, .lcmp, []), (494, .ifCond .eq 0, [7]), (497, .iconst 0, []), (498, .ireturn, [2])],
  [(499, .goto 0, [126])],
  [(502, .aload 1, []), (503, .invokevirtual 0, [61, 1, 5]), (506, .aload 2, []), (507, .invokevirtual 0, [163, 1, 6]), (510, .if_icmp .eq 0, [126]), (513, .iconst 0, []), (514, .ireturn, [2])],
  [(515, .aload 1, []), (516, .invokevirtual 0, [62, 1, 5]), (519, .aload 2, []), (520, .invokevirtual 0, [164, 1, 6]), (523, .if_icmp .eq 0, [126]), (526, .iconst 0, []), (527, .ireturn, [2])],
  [(528, .aload 1, []), (529, .aload 0, []), (530, .iload 5, []), (532, .iconst 1, []), (533, .iadd, []), (534, .iaload, []), (535, .aload 3, []), (536, .invokestatic 0, [262, 3]), (539, .istore 6, []), (541, .aload 2, []), (542, .aload 0, []), (543, .iload 5, []), (545, .iconst 1, []), (546, .iadd, []), (547, .iaload, []), (548, .invokevirtual 0, [165, 2, 6]), (551, .istore 7, []), (553, .aload 2, []), (554, .invokevirtual 0, [156, 1, 6]), (557, .iload 6, []), (559, .if_icmp .eq 0, [11]), (562, .iconst 0, []), (563, .ireturn, [2])],
  [(564, .iload 6, []), (566, .ifCond .ne 0, [12]), (569, .aload 3, []), (570, .iconst 0, []), (571, .laload, []), (572, .iload 7, []), (574, .i2l, []), (575, .lcmp, []), (576, .ifCond .eq 0, [12]), (579, .iconst 0, []), (580, .ireturn, [2])],
  [(581, .goto 0, [126])],
  [(584, .aload 1, []), (585, .aload 0, []), (586, .iload 5, []), (588, .iconst 1, []), (589, .iadd, []), (590, .iaload, []), (591, .i2c, []), (592, .aload 0, []), (593, .iload 5, []), (595, .iconst 2, []), (596, .iadd, []), (597, .iaload, []), (598, .aload 3, []), (599, .invokestatic 0, [263, 4]), (602, .istore 6, []), (604, .aload 2, []), (605, .aload 0, []), (606, .iload 5, []), (608, .iconst 1, []), (609, .iadd, []), (610, .iaload, []), (611, .i2c, []), (612, .aload 0, []), (613, .iload 5, []), (615, .iconst 2, []), (616, .iadd, []), (617, .iaload, []), (618, .invokevirtual 0, [166, 3, 6]), (621, .istore 7, []), (623, .aload 2, []), (624, .invokevirtual 0, [156, 1, 6]), (627, .iload 6, []), (629, .if_icmp .eq 0, [14]), (632, .iconst 0, []), (633, .ireturn, [2])],
  [(634, .iload 6, []), (636, .ifCond .ne 0, [15]), (639, .aload 3, []), (640, .iconst 0, []), (641, .laload, []), (642, .iload 7, []), (644, .i2l, []), (645, .lcmp, []), (646, .ifCond .eq 0, [15]), (649, .iconst 0, []), (650, .ireturn, [2])],
  [(651, .goto 0, [126])],
  [(654, .aload 1, []), (655, .aload 0, []), (656, .iload 5, []), (658, .iconst 1, []), (659, .iadd, []), (660, .iaload, []), (661, .i2c, []), (662, .aload 3, []), (663, .invokestatic 0, [264, 3]), (666, .istore 6, []), (668, .aload 2, []), (669, .aload 0, []), (670, .iload 5, []), (672, .iconst 1, []), (673, .iadd, []), (674, .iaload, []), (675, .i2c, []), (676, .invokevirtual 0, [167, 2, 6]), (679, .istore 7, []), (681, .aload 2, []), (682, .invokevirtual 0, [156, 1, 6]), (685, .iload 6, []), (687, .if_icmp .eq 0, [17]), (690, .iconst 0, []), (691, .ireturn, [2])],
  [(692, .iload 6, []), (694, .ifCond .ne 0, [18]), (697, .aload 3, []), (698, .iconst 0, []), (699, .laload, []), (700, .iload 7, []), (702, .i2l, []), (703, .lcmp, []), (704, .ifCond .eq 0, [18]), (707, .iconst 0, []), (708, .ireturn, [2])],
  [(709, .goto 0, [126])],
  [(712, .aload 1, []), (713, .invokevirtual 0, [66, 1, 5]), (716, .aload 2, []), (717, .invokevirtual 0, [170, 1, 6]), (720, .if_icmp .eq 0, [126]), (723, .iconst 0, []), (724, .ireturn, [2])],
  [(725, .aload 1, []), (726, .invokevirtual 0, [67, 1, 5]), (729, .aload 2, []), (730, .invokevirtual 0, [171, 1, 6]), (733, .if_icmp .eq 0, [126]), (736, .iconst 0, []), (737, .ireturn, [2])],
  [(738, .aload 1, []), (739, .aload 3, []), (740, .invokestatic 0, [265, 2]), (743, .istore 6, []), (745, .aload 2, []), (746, .invokevirtual 0, [181, 1, 6]), (749, .istore 7, []), (751, .aload 2, []), (752, .invokevirtual 0, [156, 1, 6]), (755, .iload 6, []), (757, .if_icmp .eq 0, [22]), (760, .iconst 0, []), (761, .ireturn, [2])],
  [(762, .iload 6, []), (764, .ifCond .ne 0, [23]), (767, .aload 3, []), (768, .iconst 0, []), (769, .laload, []), (770, .iload 7, []), (772, .i2l, []), (773, .lcmp, []), (774, .ifCond .eq 0, [23]), (777, .iconst 0, []), (778, .ireturn, [2])],
  [(779, .goto 0, [126])],
  [(782, .aload 1, []), (783, .aload 0, []), (784, .iload 5, []), (786, .iconst 1, []), (787, .iadd, []), (788, .iaload, []), (789, .aload 3, []), (790, .invokestatic 0, [266, 3]), (793, .istore 6, []), (795, .aload 2, []), (796, .aload 0, []), (797, .iload 5, []), (799, .iconst 1, []), (800, .iadd, []), (801, .iaload, []), (802, .invokevirtual 0, [183, 2, 6]), (805, .istore 7, []), (807, .aload 2, []), (808, .invokevirtual 0, [156, 1, 6]), (811, .iload 6, []), (813, .if_icmp .eq 0, [25]), (816, .iconst 0, []), (817, .ireturn, [2])],
  [(818, .iload 6, []), (820, .ifCond .ne 0, [26]), (823, .aload 3, []), (824, .iconst 0, []), (825, .laload, []), (826, .iload 7, []), (828, .i2l, []), (829, .lcmp, []), (830, .ifCond .eq 0, [26]), (833, .iconst 0, []), (834, .ireturn, [2])],
  [(835, .goto 0, [126])],
  [(838, .aload 1, []), (839, .aload 3, []), (840, .invokestatic 0, [267, 2]), (843, .istore 6, []), (845, .aload 2, []), (846, .invokevirtual 0, [184, 1, 6]), (849, .istore 7, []), (851, .aload 2, []), (852, .invokevirtual 0, [156, 1, 6]), (855, .iload 6, []), (857, .if_icmp .eq 0, [28]), (860, .iconst 0, []), (861, .ireturn, [2])],
  [(862, .iload 6, []), (864, .ifCond .ne 0, [29]), (867, .aload 3, []), (868, .iconst 0, []), (869, .laload, []), (870, .iload 7, []), (872, .i2l, []), (873, .lcmp, []), (874, .ifCond .eq 0, [29]), (877, .iconst 0, []), (878, .ireturn, [2])],
  [(879, .goto 0, [126])],
  [(882, .aload 1, []), (883, .aload 3, []), (884, .invokestatic 0, [268, 2]), (887, .istore 6, []), (889, .aload 2, []), (890, .invokevirtual 0, [185, 1, 6]), (893, .istore 7, []), (895, .aload 2, []), (896, .invokevirtual 0, [156, 1, 6]), (899, .iload 6, []), (901, .if_icmp .eq 0, [31]), (904, .iconst 0, []), (905, .ireturn, [2])],
  [(906, .iload 6, []), (908, .ifCond .ne 0, [32]), (911, .aload 3, []), (912, .iconst 0, []), (913, .laload, []), (914, .iload 7, []), (916, .i2l, []), (917, .lcmp, []), (918, .ifCond .eq 0, [32]), (921, .iconst 0, []), (922, .ireturn, [2])],
  [(923, .goto 0, [126])],
  [(926, .aload 1, []), (927, .aload 3, []), (928, .invokestatic 0, [269, 2]), (931, .istore 6, []), (933, .aload 2, []), (934, .invokevirtual 0, [187, 1, 6]), (937, .istore 7, []), (939, .aload 2, []), (940, .invokevirtual 0, [156, 1, 6]), (943, .iload 6, []), (945, .if_icmp .eq 0, [34]), (948, .iconst 0, []), (949, .ireturn, [2])],
  [(950, .iload 6, []), (952, .ifCond .ne 0, [35]), (955, .aload 3, []), (956, .iconst 0, []), (957, .laload, []), (958, .iload 7, []), (960, .i2l, []), (961, .lcmp, []), (962, .ifCond .eq 0, [35]), (965, .iconst 0, []), (966, .ireturn, [2])],
  [(967, .goto 0, [126])],
  [(970, .aload 1, []), (971, .invokevirtual 0, [73, 1, 5]), (974, .aload 2, []), (975, .invokevirtual 0, [188, 1, 6]), (978, .if_icmp .eq 0, [126]), (981, .iconst 0, []), (982, .ireturn, [2])],
  [(983, .aload 1, []), (984, .invokevirtual 0, [74, 1, 5]), (987, .aload 2, []), (988, .invokevirtual 0, [189, 1, 6]), (991, .if_icmp .eq 0, [126]), (994, .iconst 0, []), (995, .ireturn, [2])],
  [(996, .aload 1, []), (997, .aload 0, []), (998, .iload 5, []), (1000, .iconst 1, []), (1001, .iadd, []), (1002, .iaload, []), (1003, .aload 3, []), (1004, .invokestatic 0, [270, 3]), (1007, .istore 6, []), (1009, .aload 2, []), (1010, .aload 0, []), (1011, .iload 5, []), (1013, .iconst 1, []), (1014, .iadd, []), (1015, .iaload, []), (1016, .invokevirtual 0, [190, 2, 6]), (1019, .istore 7, []), (1021, .aload 2, []), (1022, .invokevirtual 0, [156, 1, 6]), (1025, .iload 6, []), (1027, .if_icmp .eq 0, [39]), (1030, .iconst 0, []), (1031, .ireturn, [2])],
  [(1032, .iload 6, []), (1034, .ifCond .ne 0, [40]), (1037, .aload 3, []), (1038, .iconst 0, []), (1039, .laload, []), (1040, .iload 7, []), (1042, .i2l, []), (1043, .lcmp, []), (1044, .ifCond .eq 0, [40]), (1047, .iconst 0, []), (1048, .ireturn, [2])],
  [(1049, .goto 0, [126])],
  [(1052, .aload 1, []), (1053, .aload 0, []), (1054, .iload 5, []), (1056, .iconst 1, []), (1057, .iadd, []), (1058, .iaload, []), (1059, .aload 3, []), (1060, .invokestatic 0, [271, 3]), (1063, .istore 6, []), (1065, .aload 2, []), (1066, .aload 0, []), (1067, .iload 5, []), (1069, .iconst 1, []), (1070, .iadd, []), (1071, .iaload, []), (1072, .invokevirtual 0, [191, 2, 6]), (1075, .istore 7, []), (1077, .aload 2, []), (1078, .invokevirtual 0, [156, 1, 6]), (1081, .iload 6, []), (1083, .if_icmp .eq 0, [42]), (1086, .iconst 0, []), (1087, .ireturn, [2])],
  [(1088, .iload 6, []), (1090, .ifCond .ne 0, [43]), (1093, .aload 3, []), (1094, .iconst 0, []), (1095, .laload, []), (1096, .iload 7, []), (1098, .i2l, []), (1099, .lcmp, []), (1100, .ifCond .eq 0, [43]), (1103, .iconst 0, []), (1104, .ireturn, [2])],
  [(1105, .goto 0, [126])],
  [(1108, .aload 1, []), (1109, .aload 0, []), (1110, .iload 5, []), (1112, .iconst 1, []), (1113, .iadd, []), (1114, .iaload, []), (1115, .aload 0, []), (1116, .iload 5, []), (1118, .iconst 2, []), (1119, .iadd, []), (1120, .iaload, []), (1121, .aload 3, []), (1122, .invokestatic 0, [272, 4]), (1125, .istore 6, []), (1127, .aload 2, []), (1128, .aload 0, []), (1129, .iload 5, []), (1131, .iconst 1, []), (1132, .iadd, []), (1133, .iaload, []), (1134, .aload 0, []), (1135, .iload 5, []), (1137, .iconst 2, []), (1138, .iadd, []), (1139, .iaload, []), (1140, .invokevirtual 0, [194, 3, 6]), (1143, .istore 7, []), (1145, .aload 2, []), (1146, .invokevirtual 0, [156, 1, 6]), (1149, .iload 6, []), (1151, .if_icmp .eq 0, [45]), (1154, .iconst 0, []), (1155, .ireturn, [2])],
  [(1156, .iload 6, []), (1158, .ifCond .ne 0, [46]), (1161, .aload 3, []), (1162, .iconst 0, []), (1163, .laload, []), (1164, .iload 7, []), (1166, .i2l, []), (1167, .lcmp, []), (1168, .ifCond .eq 0, [46]), (1171, .iconst 0, []), (1172, .ireturn, [2])],
  [(1173, .goto 0, [126])],
  [(1176, .aload 1, []), (1177, .aload 0, []), (1178, .iload 5, []), (1180, .iconst 1, []), (1181, .iadd, []), (1182, .iaload, []), (1183, .aload 0, []), (1184, .iload 5, []), (1186, .iconst 2, []), (1187, .iadd, []), (1188, .iaload, []), (1189, .i2c, []), (1190, .aload 3, []), (1191, .invokestatic 0, [273, 4]), (1194, .istore 6, []), (1196, .aload 2, []), (1197, .aload 0, []), (1198, .iload 5, []), (1200, .iconst 1, []), (1201, .iadd, []), (1202, .iaload, []), (1203, .aload 0, []), (1204, .iload 5, []), (1206, .iconst 2, []), (1207, .iadd, []), (1208, .iaload, []), (1209, .i2c, []), (1210, .invokevirtual 0, [196, 3, 6]), (1213, .istore 7, []), (1215, .aload 2, []), (1216, .invokevirtual 0, [156, 1, 6]), (1219, .iload 6, []), (1221, .if_icmp .eq 0, [48]), (1224, .iconst 0, []), (1225, .ireturn, [2])],
  [(1226, .iload 6, []), (1228, .ifCond .ne 0, [49]), (1231, .aload 3, []), (1232, .iconst 0, []), (1233, .laload, []), (1234, .iload 7, []), (1236, .i2l, []), (1237, .lcmp, []), (1238, .ifCond .eq 0, [49]), (1241, .iconst 0, []), (1242, .ireturn, [2])],
  [(1243, .goto 0, [126])],
  [(1246, .aload 1, []), (1247, .aload 0, []), (1248, .iload 5, []), (1250, .iconst 1, []), (1251, .iadd, []), (1252, .iaload, []), (1253, .aload 0, []), (1254, .iload 5, []), (1256, .iconst 2, []), (1257, .iadd, []), (1258, .iaload, []), (1259, .i2c, []), (1260, .aload 0, []), (1261, .iload 5, []), (1263, .iconst 3, []), (1264, .iadd, []), (1265, .iaload, []), (1266, .aload 3, []), (1267, .invokestatic 0, [274, 5]), (1270, .istore 6, []), (1272, .aload 2, []), (1273, .aload 0, []), (1274, .iload 5, []), (1276, .iconst 1, []), (1277, .iadd, []), (1278, .iaload, []), (1279, .aload 0, []), (1280, .iload 5, []), (1282, .iconst 2, []), (1283, .iadd, []), (1284, .iaload, []), (1285, .i2c, []), (1286, .aload 0, []), (1287, .iload 5, []), (1289, .iconst 3, []), (1290, .iadd, []), (1291, .iaload, []), (1292, .invokevirtual 0, [197, 4, 6]), (1295, .istore 7, []), (1297, .aload 2, []), (1298, .invokevirtual 0, [156, 1, 6]), (1301, .iload 6, []), (1303, .if_icmp .eq 0, [51]), (1306, .iconst 0, []), (1307, .ireturn, [2])],
  [(1308, .iload 6, []), (1310, .ifCond .ne 0, [52]), (1313, .aload 3, []), (1314, .iconst 0, []), (1315, .laload, []), (1316, .iload 7, []), (1318, .i2l, []), (1319, .lcmp, []), (1320, .ifCond .eq 0, [52]), (1323, .iconst 0, []), (1324, .ireturn, [2])],
  [(1325, .goto 0, [126])],
  [(1328, .aload 1, []), (1329, .aload 0, []), (1330, .iload 5, []), (1332, .iconst 1, []), (1333, .iadd, []), (1334, .iaload, []), (1335, .aload 3, []), (1336, .invokestatic 0, [275, 3]), (1339, .istore 6, []), (1341, .aload 2, []), (1342, .aload 0, []), (1343, .iload 5, []), (1345, .iconst 1, []), (1346, .iadd, []), (1347, .iaload, []), (1348, .invokevirtual 0, [198, 2, 6]), (1351, .istore 7, []), (1353, .aload 2, []), (1354, .invokevirtual 0, [156, 1, 6]), (1357, .iload 6, []), (1359, .if_icmp .eq 0, [54]), (1362, .iconst 0, []), (1363, .ireturn, [2])],
  [(1364, .iload 6, []), (1366, .ifCond .ne 0, [55]), (1369, .aload 3, []), (1370, .iconst 0, []), (1371, .laload, []), (1372, .iload 7, []), (1374, .i2l, []), (1375, .lcmp, []), (1376, .ifCond .eq 0, [55]), (1379, .iconst 0, []), (1380, .ireturn, [2])],
  [(1381, .goto 0, [126])],
  [(1384, .aload 1, []), (1385, .aload 0, []), (1386, .iload 5, []), (1388, .iconst 1, []), (1389, .iadd, []), (1390, .iaload, []), (1391, .aload 3, []), (1392, .invokestatic 0, [276, 3]), (1395, .istore 6, []), (1397, .aload 2, []), (1398, .aload 0, []), (1399, .iload 5, []), (1401, .iconst 1, []), (1402, .iadd, []), (1403, .iaload, []), (1404, .invokevirtual 0, [200, 2, 6]), (1407, .istore 7, []), (1409, .aload 2, []), (1410, .invokevirtual 0, [156, 1, 6]), (1413, .iload 6, []), (1415, .if_icmp .eq 0, [57]), (1418, .iconst 0, []), (1419, .ireturn, [2])],
  [(1420, .iload 6, []), (1422, .ifCond .ne 0, [58]), (1425, .aload 3, []), (1426, .iconst 0, []), (1427, .laload, []), (1428, .iload 7, []), (1430, .i2l, []), (1431, .lcmp, []), (1432, .ifCond .eq 0, [58]), (1435, .iconst 0, []), (1436, .ireturn, [2])],
  [(1437, .goto 0, [126])],
  [(1440, .aload 1, []), (1441, .aload 0, []), (1442, .iload 5, []), (1444, .iconst 1, []), (1445, .iadd, []), (1446, .iaload, []), (1447, .aload 3, []), (1448, .invokestatic 0, [277, 3]), (1451, .istore 6, []), (1453, .aload 2, []), (1454, .aload 0, []), (1455, .iload 5, []), (1457, .iconst 1, []), (1458, .iadd, []), (1459, .iaload, []), (1460, .invokevirtual 0, [201, 2, 6]), (1463, .lstore 7, []), (1465, .aload 2, []), (1466, .invokevirtual 0, [156, 1, 6]), (1469, .iload 6, []), (1471, .if_icmp .eq 0, [60]), (1474, .iconst 0, []), (1475, .ireturn, [2])],
  [(1476, .iload 6, []), (1478, .ifCond .ne 0, [61]), (1481, .aload 3, []), (1482, .iconst 0, []), (1483, .laload, []), (1484, .lload 7, []), (1486, .lcmp, []), (1487, .ifCond .eq 0, [61]), (1490, .iconst 0, []), (1491, .ireturn, [2])],
  [(1492, .goto 0, [126])],
  [(1495, .aload 1, []), (1496, .aload 0, []), (1497, .iload 5, []), (1499, .iconst 1, []), (1500, .iadd, []), (1501, .iaload, []), (1502, .aload 0, []), (1503, .iload 5, []), (1505, .iconst 2, []), (1506, .iadd, []), (1507, .iaload, []), (1508, .aload 0, []), (1509, .iload 5, []), (1511, .iconst 3, []), (1512, .iadd, []), (1513, .iaload, []), (1514, .aload 3, []), (1515, .invokestatic 0, [278, 5]), (1518, .istore 6, []), (1520, .aload 2, []), (1521, .aload 0, []), (1522, .iload 5, []), (1524, .iconst 1, []), (1525, .iadd, []), (1526, .iaload, []), (1527, .aload 0, []), (1528, .iload 5, []), (1530, .iconst 2, []), (1531, .iadd, []), (1532, .iaload, []), (1533, .aload 0, []), (1534, .iload 5, []), (1536, .iconst 3, []), (1537, .iadd, []), (1538, .iaload, []), (1539, .invokevirtual 0, [202, 4, 6]), (1542, .istore 7, []), (1544, .aload 2, []), (1545, .invokevirtual 0, [156, 1, 6]), (1548, .iload 6, []), (1550, .if_icmp .eq 0, [63]), (1553, .iconst 0, []), (1554, .ireturn, [2])],
  [(1555, .iload 6, []), (1557, .ifCond .ne 0, [64]), (1560, .aload 3, []), (1561, .iconst 0, []), (1562, .laload, []), (1563, .iload 7, []), (1565, .i2l, []), (1566, .lcmp, []), (1567, .ifCond .eq 0, [64]), (1570, .iconst 0, []), (1571, .ireturn, [2])],
  [(1572, .goto 0, [126])],
  [(1575, .aload 1, []), (1576, .invokevirtual 0, [84, 1, 5]), (1579, .aload 2, []), (1580, .invokevirtual 0, [204, 1, 6]), (1583, .if_icmp .eq 0, [126]), (1586, .iconst 0, []), (1587, .ireturn, [2])],
  [(1588, .aload 1, []), (1589, .aload 0, []), (1590, .iload 5, []), (1592, .iconst 1, []), (1593, .iadd, []), (1594, .iaload, []), (1595, .aload 3, []), (1596, .invokestatic 0, [279, 3]), (1599, .istore 6, []), (1601, .aload 2, []), (1602, .aload 0, []), (1603, .iload 5, []), (1605, .iconst 1, []), (1606, .iadd, []), (1607, .iaload, []), (1608, .invokevirtual 0, [205, 2, 6]), (1611, .istore 7, []), (1613, .aload 2, []), (1614, .invokevirtual 0, [156, 1, 6]), (1617, .iload 6, []), (1619, .if_icmp .eq 0, [67]), (1622, .iconst 0, []), (1623, .ireturn, [2])],
  [(1624, .iload 6, []), (1626, .ifCond .ne 0, [68]), (1629, .aload 3, []), (1630, .iconst 0, []), (1631, .laload, []), (1632, .iload 7, []), (1634, .i2l, []), (1635, .lcmp, []), (1636, .ifCond .eq 0, [68]), (1639, .iconst 0, []), (1640, .ireturn, [2])],
  [(1641, .goto 0, [126])],
  [(1644, .aload 1, []), (1645, .invokevirtual 0, [86, 1, 5]), (1648, .aload 2, []), (1649, .invokevirtual 0, [206, 1, 6]), (1652, .if_icmp .eq 0, [126]), (1655, .iconst 0, []), (1656, .ireturn, [2])],
  [(1657, .aload 1, []), (1658, .aload 0, []), (1659, .iload 5, []), (1661, .iconst 1, []), (1662, .iadd, []), (1663, .iaload, []), (1664, .aload 3, []), (1665, .invokestatic 0, [280, 3]), (1668, .istore 6, []), (1670, .aload 2, []), (1671, .aload 0, []), (1672, .iload 5, []), (1674, .iconst 1, []), (1675, .iadd, []), (1676, .iaload, []), (1677, .invokevirtual 0, [208, 2, 6]), (1680, .istore 7, []), (1682, .aload 2, []), (1683, .invokevirtual 0, [156, 1, 6]), (1686, .iload 6, []), (1688, .if_icmp .eq 0, [71]), (1691, .iconst 0, []), (1692, .ireturn, [2])],
  [(1693, .iload 6, []), (1695, .ifCond .ne 0, [72]), (1698, .aload 3, []), (1699, .iconst 0, []), (1700, .laload, []), (1701, .iload 7, []), (1703, .i2l, []), (1704, .lcmp, []), (1705, .ifCond .eq 0, [72]), (1708, .iconst 0, []), (1709, .ireturn, [2])],
  [(1710, .goto 0, [126])],
  [(1713, .aload 1, []), (1714, .aload 0, []), (1715, .iload 5, []), (1717, .iconst 1, []), (1718, .iadd, []), (1719, .iaload, []), (1720, .aload 3, []), (1721, .invokestatic 0, [281, 3]), (1724, .istore 6, []), (1726, .aload 2, []), (1727, .aload 0, []), (1728, .iload 5, []), (1730, .iconst 1, []), (1731, .iadd, []), (1732, .iaload, []), (1733, .invokevirtual 0, [210, 2, 6]), (1736, .istore 7, []), (1738, .aload 2, []), (1739, .invokevirtual 0, [156, 1, 6]), (1742, .iload 6, []), (1744, .if_icmp .eq 0, [74]), (1747, .iconst 0, []), (1748, .ireturn, [2])],
  [(1749, .iload 6, []), (1751, .ifCond .ne 0, [75]), (1754, .aload 3, []), (1755, .iconst 0, []), (1756, .laload, []), (1757, .iload 7, []), (1759, .i2l, []), (1760, .lcmp, []), (1761, .ifCond .eq 0, [75]), (1764, .iconst 0, []), (1765, .ireturn, [2])],
  [(1766, .goto 0, [126])],
  [(1769, .aload 1, []), (1770, .aload 0, []), (1771, .iload 5, []), (1773, .iconst 1, []), (1774, .iadd, []), (1775, .iaload, []), (1776, .aload 0, []), (1777, .iload 5, []), (1779, .iconst 2, []), (1780, .iadd, []), (1781, .iaload, []), (1782, .aload 3, []), (1783, .invokestatic 0, [282, 4]), (1786, .istore 6, []), (1788, .aload 2, []), (1789, .aload 0, []), (1790, .iload 5, []), (1792, .iconst 1, []), (1793, .iadd, []), (1794, .iaload, []), (1795, .aload 0, []), (1796, .iload 5, []), (1798, .iconst 2, []), (1799, .iadd, []), (1800, .iaload, []), (1801, .invokevirtual 0, [211, 3, 6]), (1804, .istore 7, []), (1806, .aload 2, []), (1807, .invokevirtual 0, [156, 1, 6]), (1810, .iload 6, []), (1812, .if_icmp .eq 0, [77]), (1815, .iconst 0, []), (1816, .ireturn, [2])],
  [(1817, .iload 6, []), (1819, .ifCond .ne 0, [78]), (1822, .aload 3, []), (1823, .iconst 0, []), (1824, .laload, []), (1825, .iload 7, []), (1827, .i2l, []), (1828, .lcmp, []), (1829, .ifCond .eq 0, [78]), (1832, .iconst 0, []), (1833, .ireturn, [2])],
  [(1834, .goto 0, [126])],
  [(1837, .aload 1, []), (1838, .aload 0, []), (1839, .iload 5, []), (1841, .iconst 1, []), (1842, .iadd, []), (1843, .iaload, []), (1844, .aload 3, []), (1845, .invokestatic 0, [283, 3]), (1848, .istore 6, []), (1850, .aload 2, []), (1851, .aload 0, []), (1852, .iload 5, []), (1854, .iconst 1, []), (1855, .iadd, []), (1856, .iaload, []), (1857, .invokevirtual 0, [213, 2, 6]), (1860, .istore 7, []), (1862, .aload 2, []), (1863, .invokevirtual 0, [156, 1, 6]), (1866, .iload 6, []), (1868, .if_icmp .eq 0, [80]), (1871, .iconst 0, []), (1872, .ireturn, [2])],
  [(1873, .iload 6, []), (1875, .ifCond .ne 0, [81]), (1878, .aload 3, []), (1879, .iconst 0, []), (1880, .laload, []), (1881, .iload 7, []), (1883, .i2l, []), (1884, .lcmp, []), (1885, .ifCond .eq 0, [81]), (1888, .iconst 0, []), (1889, .ireturn, [2])],
  [(1890, .goto 0, [126])],
  [(1893, .aload 1, []), (1894, .invokevirtual 0, [91, 1, 5]), (1897, .aload 2, []), (1898, .invokevirtual 0, [214, 1, 6]), (1901, .if_icmp .eq 0, [126]), (1904, .iconst 0, []), (1905, .ireturn, [2])],
  [(1906, .aload 1, []), (1907, .aload 0, []), (1908, .iload 5, []), (1910, .iconst 1, []), (1911, .iadd, []), (1912, .iaload, []), (1913, .aload 3, []), (1914, .invokestatic 0, [284, 3]), (1917, .istore 6, []), (1919, .aload 2, []), (1920, .aload 0, []), (1921, .iload 5, []), (1923, .iconst 1, []), (1924, .iadd, []), (1925, .iaload, []), (1926, .invokevirtual 0, [218, 2, 6]), (1929, .istore 7, []), (1931, .aload 2, []), (1932, .invokevirtual 0, [156, 1, 6]), (1935, .iload 6, []), (1937, .if_icmp .eq 0, [84]), (1940, .iconst 0, []), (1941, .ireturn, [2])],
  [(1942, .iload 6, []), (1944, .ifCond .ne 0, [85]), (1947, .aload 3, []), (1948, .iconst 0, []), (1949, .laload, []), (1950, .iload 7, []), (1952, .i2l, []), (1953, .lcmp, []), (1954, .ifCond .eq 0, [85]), (1957, .iconst 0, []), (1958, .ireturn, [2])],
  [(1959, .goto 0, [126])],
  [(1962, .aload 1, []), (1963, .aload 0, []), (1964, .iload 5, []), (1966, .iconst 1, []), (1967, .iadd, []), (1968, .iaload, []), (1969, .aload 3, []), (1970, .invokestatic 0, [285, 3]), (1973, .istore 6, []), (1975, .aload 2, []), (1976, .aload 0, []), (1977, .iload 5, []), (1979, .iconst 1, []), (1980, .iadd, []), (1981, .iaload, []), (1982, .invokevirtual 0, [219, 2, 6]), (1985, .istore 7, []), (1987, .aload 2, []), (1988, .invokevirtual 0, [156, 1, 6]), (1991, .iload 6, []), (1993, .if_icmp .eq 0, [87]), (1996, .iconst 0, []), (1997, .ireturn, [2])],
  [(1998, .iload 6, []), (2000, .ifCond .ne 0, [88]), (2003, .aload 3, []), (2004, .iconst 0, []), (2005, .laload, []), (2006, .iload 7, []), (2008, .i2l, []), (2009, .lcmp, []), (2010, .ifCond .eq 0, [88]), (2013, .iconst 0, []), (2014, .ireturn, [2])],
  [(2015, .goto 0, [126])],
  [(2018, .aload 1, []), (2019, .invokevirtual 0, [94, 1, 5]), (2022, .aload 2, []), (2023, .invokevirtual 0, [224, 1, 6]), (2026, .if_icmp .eq 0, [126]), (2029, .iconst 0, []), (2030, .ireturn, [2])],
  [(2031, .aload 1, []), (2032, .invokevirtual 0, [95, 1, 5]), (2035, .aload 2, []), (2036, .invokevirtual 0, [225, 1, 6]), (2039, .if_icmp .eq 0, [126]), (2042, .iconst 0, []), (2043, .ireturn, [2])],
  [(2044, .aload 1, []), (2045, .invokevirtual 0, [96, 1, 5]), (2048, .aload 2, []), (2049, .invokevirtual 0, [226, 1, 6]), (2052, .if_icmp .eq 0, [126]), (2055, .iconst 0, []), (2056, .ireturn, [2])],
  [(2057, .aload 1, []), (2058, .invokevirtual 0, [97, 1, 5]), (2061, .aload 2, []), (2062, .invokevirtual 0, [227, 1, 6]), (2065, .if_icmp .eq 0, [126]), (2068, .iconst 0, []), (2069, .ireturn, [2])],
  [(2070, .aload 1, []), (2071, .aload 0, []), (2072, .iload 5, []), (2074, .iconst 1, []), (2075, .iadd, []), (2076, .iaload, []), (2077, .aload 3, []), (2078, .invokestatic 0, [286, 3]), (2081, .istore 6, []), (2083, .aload 2, []), (2084, .aload 0, []), (2085, .iload 5, []), (2087, .iconst 1, []), (2088, .iadd, []), (2089, .iaload, []), (2090, .invokevirtual 0, [228, 2, 6]), (2093, .istore 7, []), (2095, .aload 2, []), (2096, .invokevirtual 0, [156, 1, 6]), (2099, .iload 6, []), (2101, .if_icmp .eq 0, [94]), (2104, .iconst 0, []), (2105, .ireturn, [2])],
  [(2106, .iload 6, []), (2108, .ifCond .ne 0, [95]), (2111, .aload 3, []), (2112, .iconst 0, []), (2113, .laload, []), (2114, .iload 7, []), (2116, .i2l, []), (2117, .lcmp, []), (2118, .ifCond .eq 0, [95]), (2121, .iconst 0, []), (2122, .ireturn, [2])],
  [(2123, .goto 0, [126])],
  [(2126, .aload 1, []), (2127, .aload 0, []), (2128, .iload 5, []), (2130, .iconst 1, []), (2131, .iadd, []), (2132, .iaload, []), (2133, .aload 3, []), (2134, .invokestatic 0, [287, 3]), (2137, .istore 6, []), (2139, .aload 2, []), (2140, .aload 0, []), (2141, .iload 5, []), (2143, .iconst 1, []), (2144, .iadd, []), (2145, .iaload, []), (2146, .invokevirtual 0, [229, 2, 6]), (2149, .istore 7, []), (2151, .aload 2, []), (2152, .invokevirtual 0, [156, 1, 6]), (2155, .iload 6, []), (2157, .if_icmp .eq 0, [97]), (2160, .iconst 0, []), (2161, .ireturn, [2])],
  [(2162, .iload 6, []), (2164, .ifCond .ne 0, [98]), (2167, .aload 3, []), (2168, .iconst 0, []), (2169, .laload, []), (2170, .iload 7, []), (2172, .i2l, []), (2173, .lcmp, []), (2174, .ifCond .eq 0, [98]), (2177, .iconst 0, []), (2178, .ireturn, [2])],
  [(2179, .goto 0, [126])],
  [(2182, .aload 1, []), (2183, .aload 0, []), (2184, .iload 5, []), (2186, .iconst 1, []), (2187, .iadd, []), (2188, .iaload, []), (2189, .aload 3, []), (2190, .invokestatic 0, [288, 3]), (2193, .istore 6, []), (2195, .aload 2, []), (2196, .aload 0, []), (2197, .iload 5, []), (2199, .iconst 1, []), (2200, .iadd, []), (2201, .iaload, []), (2202, .invokevirtual 0, [230, 2, 6]), (2205, .istore 7, []), (2207, .aload 2, []), (2208, .invokevirtual 0, [156, 1, 6]), (2211, .iload 6, []), (2213, .if_icmp .eq 0, [100]), (2216, .iconst 0, []), (2217, .ireturn, [2])],
  [(2218, .iload 6, []), (2220, .ifCond .ne 0, [101]), (2223, .aload 3, []), (2224, .iconst 0, []), (2225, .laload, []), (2226, .iload 7, []), (2228, .i2l, []), (2229, .lcmp, []), (2230, .ifCond .eq 0, [101]), (2233, .iconst 0, []), (2234, .ireturn, [2])],
  [(2235, .goto 0, [126])],
  [(2238, .aload 1, []), (2239, .aload 0, []), (2240, .iload 5, []), (2242, .iconst 1, []), (2243, .iadd, []), (2244, .iaload, []), (2245, .aload 0, []), (2246, .iload 5, []), (2248, .iconst 2, []), (2249, .iadd, []), (2250, .iaload, []), (2251, .aload 3, []), (2252, .invokestatic 0, [289, 4]), (2255, .istore 6, []), (2257, .aload 2, []), (2258, .aload 0, []), (2259, .iload 5, []), (2261, .iconst 1, []), (2262, .iadd, []), (2263, .iaload, []), (2264, .aload 0, []), (2265, .iload 5, []), (2267, .iconst 2, []), (2268, .iadd, []), (2269, .iaload, []), (2270, .invokevirtual 0, [234, 3, 6]), (2273, .istore 7, []), (2275, .aload 2, []), (2276, .invokevirtual 0, [156, 1, 6]), (2279, .iload 6, []), (2281, .if_icmp .eq 0, [103]), (2284, .iconst 0, []), (2285, .ireturn, [2])],
  [(2286, .iload 6, []), (2288, .ifCond .ne 0, [104]), (2291, .aload 3, []), (2292, .iconst 0, []), (2293, .laload, []), (2294, .iload 7, []), (2296, .i2l, []), (2297, .lcmp, []), (2298, .ifCond .eq 0, [104]), (2301, .iconst 0, []), (2302, .ireturn, [2])],
  [(2303, .goto 0, [126])],
  [(2306, .aload 1, []), (2307, .aload 0, []), (2308, .iload 5, []), (2310, .iconst 1, []), (2311, .iadd, []), (2312, .iaload, []), (2313, .aload 0, []), (2314, .iload 5, []), (2316, .iconst 2, []), (2317, .iadd, []), (2318, .iaload, []), (2319, .aload 3, []), (2320, .invokestatic 0, [290, 4]), (2323, .istore 6, []), (2325, .aload 2, []), (2326, .aload 0, []), (2327, .iload 5, []), (2329, .iconst 1, []), (2330, .iadd, []), (2331, .iaload, []), (2332, .aload 0, []), (2333, .iload 5, []), (2335, .iconst 2, []), (2336, .iadd, []), (2337, .iaload, []), (2338, .invokevirtual 0, [235, 3, 6]), (2341, .istore 7, []), (2343, .aload 2, []), (2344, .invokevirtual 0, [156, 1, 6]), (2347, .iload 6, []), (2349, .if_icmp .eq 0, [106]), (2352, .iconst 0, []), (2353, .ireturn, [2])],
  [(2354, .iload 6, []), (2356, .ifCond .ne 0, [107]), (2359, .aload 3, []), (2360, .iconst 0, []), (2361, .laload, []), (2362, .iload 7, []), (2364, .i2l, []), (2365, .lcmp, []), (2366, .ifCond .eq 0, [107]), (2369, .iconst 0, []), (2370, .ireturn, [2])],
  [(2371, .goto 0, [126])],
  [(2374, .aload 1, []), (2375, .invokevirtual 0, [103, 1, 5]), (2378, .aload 2, []), (2379, .invokevirtual 0, [237, 1, 6]), (2382, .if_icmp .eq 0, [126]), (2385, .iconst 0, []), (2386, .ireturn, [2])],
  [(2387, .aload 1, []), (2388, .invokevirtual 0, [104, 1, 5]), (2391, .aload 2, []), (2392, .invokevirtual 0, [238, 1, 6]), (2395, .if_icmp .eq 0, [126]), (2398, .iconst 0, []), (2399, .ireturn, [2])],
  [(2400, .aload 1, []), (2401, .aload 3, []), (2402, .invokestatic 0, [291, 2]), (2405, .istore 6, []), (2407, .aload 2, []), (2408, .invokevirtual 0, [239, 1, 6]), (2411, .istore 7, []), (2413, .aload 2, []), (2414, .invokevirtual 0, [156, 1, 6]), (2417, .iload 6, []), (2419, .if_icmp .eq 0, [111]), (2422, .iconst 0, []), (2423, .ireturn, [2])],
  [(2424, .iload 6, []), (2426, .ifCond .ne 0, [112]), (2429, .aload 3, []), (2430, .iconst 0, []), (2431, .laload, []), (2432, .iload 7, []), (2434, .i2l, []), (2435, .lcmp, []), (2436, .ifCond .eq 0, [112]), (2439, .iconst 0, []), (2440, .ireturn, [2])],
  [(2441, .goto 0, [126])],
  [(2444, .aload 1, []), (2445, .aload 3, []), (2446, .invokestatic 0, [292, 2]), (2449, .istore 6, []), (2451, .aload 2, []), (2452, .invokevirtual 0, [241, 1, 6]), (2455, .istore 7, []), (2457, .aload 2, []), (2458, .invokevirtual 0, [156, 1, 6]), (2461, .iload 6, []), (2463, .if_icmp .eq 0, [114]), (2466, .iconst 0, []), (2467, .ireturn, [2])],
  [(2468, .iload 6, []), (2470, .ifCond .ne 0, [115]), (2473, .aload 3, []), (2474, .iconst 0, []), (2475, .laload, []), (2476, .iload 7, []), (2478, .i2l, []), (2479, .lcmp, []), (2480, .ifCond .eq 0, [115]), (2483, .iconst 0, []), (2484, .ireturn, [2])],
  [(2485, .goto 0, [126])],
  [(2488, .aload 1, []), (2489, .aload 0, []), (2490, .iload 5, []), (2492, .iconst 1, []), (2493, .iadd, []), (2494, .iaload, []), (2495, .aload 4, []), (2497, .invokestatic 0, [293, 3]), (2500, .istore 6, []), (2502, .aload 2, []), (2503, .aload 0, []), (2504, .iload 5, []), (2506, .iconst 1, []), (2507, .iadd, []), (2508, .iaload, []), (2509, .invokevirtual 0, [242, 2, 6]), (2512, .dstore 7, []), (2514, .aload 2, []), (2515, .invokevirtual 0, [156, 1, 6]), (2518, .iload 6, []), (2520, .if_icmp .eq 0, [117]), (2523, .iconst 0, []), (2524, .ireturn, [2])],
  [(2525, .iload 6, []), (2527, .ifCond .ne 0, [119]), (2530, .aload 4, []), (2532, .iconst 0, []), (2533, .daload, []), (2534, .dload 7, []), (2536, .dcmp .l, []), (2537, .ifCond .eq 0, [119]), (2540, .aload 4, []), (2542, .iconst 0, []), (2543, .daload, []), (2544, .aload 4, []), (2546, .iconst 0, []), (2547, .daload, []), (2548, .dcmp .l, []), (2549, .ifCond .eq 0, [118]), (2552, .dload 7, []), (2554, .dload 7, []), (2556, .dcmp .l, []), (2557, .ifCond .ne 0, [119]), (2560, .nop, [118])],
  [(2560, .iconst 0, []), (2561, .ireturn, [2])],
  [(2562, .goto 0, [126])],
  [(2565, .aload 1, []), (2566, .aload 4, []), (2568, .invokestatic 0, [294, 2]), (2571, .istore 6, []), (2573, .aload 2, []), (2574, .invokevirtual 0, [243, 1, 6]), (2577, .fstore 7, []), (2579, .aload 2, []), (2580, .invokevirtual 0, [156, 1, 6]), (2583, .iload 6, []), (2585, .if_icmp .eq 0, [121]), (2588, .iconst 0, []), (2589, .ireturn, [2])],
  [(2590, .iload 6, []), (2592, .ifCond .ne 0, [123]), (2595, .aload 4, []), (2597, .iconst 0, []), (2598, .daload, []), (2599, .fload 7, []), (2601, .f2d, []), (2602, .dcmp .l, []), (2603, .ifCond .eq 0, [123]), (2606, .aload 4, []), (2608, .iconst 0, []), (2609, .daload, []), (2610, .aload 4, []), (2612, .iconst 0, []), (2613, .daload, []), (2614, .dcmp .l, []), (2615, .ifCond .eq 0, [122]), (2618, .fload 7, []), (2620, .fload 7, []), (2622, .fcmp .l, []), (2623, .ifCond .ne 0, [123]), (2626, .nop, [122])],
  [(2626, .iconst 0, []), (2627, .ireturn, [2])],
  [(2628, .goto 0, [126])],
  [(2631, .aload 1, []), (2632, .invokevirtual 0, [109, 1, 5]), (2635, .aload 2, []), (2636, .invokevirtual 0, [244, 1, 6]), (2639, .lcmp, []), (2640, .ifCond .eq 0, [126]), (2643, .iconst 0, []), (2644, .ireturn, [2])],
  [(2645, .aload 1, []), (2646, .invokevirtual 0, [110, 1, 5]), (2649, .aload 2, []), (2650, .invokevirtual 0, [245, 1, 6]), (2653, .if_icmp .eq 0, [126]), (2656, .iconst 0, []), (2657, .ireturn, [2])],
  [(2658, .iinc 5 10, []), (2661, .goto 0, [1])],
  [(2664, .iconst 1, []), (2665, .ireturn, [2])]]
noncomputable def zpg : List (List (List AI)) := [bk_Row_init, bk_Row_size, bk_Row_at, bk_Row_put, bk_Row_add, bk_Row_insert, bk_Row_drop, bk_Row_empty, bk_Row_fill, bk_Row_copyOf, bk_Row_isLike, bk_Row_placeOf, bk_Row_timesOf, bk_Row_total, bk_Row_addTo, bk_Row_sortPlacesOf, bk_Code_init, bk_Code_hasTriples, bk_Code_signsWithWord, bk_Code_longestLength, bk_Code_hasWordsFor, bk_Code_withDigits, bk_Code_withoutDigits, bk_Code_layByLengths, bk_Code_layBySigns, bk_Code_digit, bk_Code_share, bk_Code_signOfRank, bk_Code_drawnOut, bk_Code_signBehind, bk_Code_signBeginning, bk_Code_someWordBeginsWith, bk_Code_layWord, bk_Code_signAhead, bk_Code_wordsAreApart, bk_Code_begins, bk_Forest_init, bk_Forest_joinLightest, bk_Forest_plant, bk_Forest_takeLightest, bk_Forest_joinInOrder, bk_Forest_weightInLine, bk_Forest_firstToJoin, bk_Forest_joinInLine, bk_Forest_measure, bk_Forest_joinedWeight, bk_Coins_init, bk_Coins_measure, bk_Coins_packageWeight, bk_Coins_layRow, bk_Coins_countTaken, bk_Growing_init, bk_Growing_lay, bk_Growing_gather, bk_Growing_start, bk_Growing_makeCode, bk_Growing_layNumber, bk_Growing_grow, bk_Sh_init, bk_Sh_type, bk_Sh_typeMore, bk_Sh_wipe, bk_Sh_length, bk_Sh_typed, bk_Sh_set, bk_Sh_count, bk_Sh_take, bk_Sh_clear, bk_Sh_least, bk_Sh_bounded, bk_Sh_ordered, bk_Sh_triple, bk_Sh_byLengths, bk_Sh_forget, bk_Sh_codes, bk_Sh_kindOf, bk_Sh_signs, bk_Sh_signAt, bk_Sh_wordLength, bk_Sh_wordBit, bk_Sh_longest, bk_Sh_bits, bk_Sh_sum, bk_Sh_lookup, bk_Sh_leastBits, bk_Sh_boundCost, bk_Sh_orderCost, bk_Sh_blockBits, bk_Sh_fewestFor, bk_Sh_countFor, bk_Sh_saved, bk_Sh_bestCut, bk_Sh_write, bk_Sh_read, bk_Sh_writeGrowing, bk_Sh_readGrowing, bk_Sh_streamBits, bk_Sh_written, bk_Sh_bitAt, bk_Sh_turn, bk_Sh_byteAt, bk_Sh_inStep, bk_Sh_lost, bk_Sh_moves, bk_Sh_unmoves, bk_Sh_runs, bk_Sh_unruns, bk_Sh_meanLength, bk_Sh_fullShare, bk_Sh_checksum, bk_Sh_isSound, bk_Sh_numberOf, bk_Sh_signOf, bk_Sh_needRoomFor, bk_Sh_needCounts, bk_Sh_needRoomForCode, bk_Sh_needBound, bk_Sh_needWideBound, bk_Sh_needWordBits, bk_Sh_needBit, bk_Sh_codeAt, bk_Sh_refuseTriples, bk_Sh_refuseEmptyWord, bk_Sh_needWordsForCounts, bk_Sh_countedSigns, bk_Sh_countPart, bk_Sh_leastLengths, bk_Sh_orderedLengths, bk_Sh_costOf, bk_Sh_boundedBits, bk_Sh_orderedBits, bk_Sh_partBits, bk_Sh_cutBits, bk_Sh_blockFrom, bk_Sh_countBlock, bk_Sh_steepCount, bk_Sh_keepByLengths, bk_Sh_keep, bk_Sh_layText, bk_Sh_gatherText, bk_Sh_numberFrom, bk_Sh_nextEnd, bk_Sh_lastEnd, bk_Sh_stepBehind, bk_Sh_layFront, bk_Sh_bringToFront, bk_Sh_tellMoves, bk_Sh_undoMoves, bk_Sh_tellRuns, bk_Sh_undoRuns, bk_Sh_codeIsSound, bk_Sh_comesBackBy, bk_Sh_costsAreSound, bk_Sh_comesBackFromMoves, bk_Sh_comesBackFromGrowing, bk_Mo_init, bk_Mo_thrown, bk_Mo_no, bk_Mo_in, bk_Mo_isSign, bk_Mo_isCode, bk_Mo_type, bk_Mo_typeMore, bk_Mo_wipe, bk_Mo_length, bk_Mo_typed, bk_Mo_set, bk_Mo_count, bk_Mo_above, bk_Mo_countsOf, bk_Mo_take, bk_Mo_clear, bk_Mo_joined, bk_Mo_cost, bk_Mo_packed, bk_Mo_put, bk_Mo_inOrder, bk_Mo_wordsOf, bk_Mo_wordsInOrder, bk_Mo_digit, bk_Mo_comes, bk_Mo_least, bk_Mo_isRoom, bk_Mo_bounded, bk_Mo_ordered, bk_Mo_triple, bk_Mo_sumOf, bk_Mo_byLengths, bk_Mo_forget, bk_Mo_codes, bk_Mo_kindOf, bk_Mo_signs, bk_Mo_baseOf, bk_Mo_isAhead, bk_Mo_signAt, bk_Mo_lacks, bk_Mo_wordLength, bk_Mo_wordBit, bk_Mo_longest, bk_Mo_hasAll, bk_Mo_bits, bk_Mo_sum, bk_Mo_lookup, bk_Mo_leastOf, bk_Mo_leastBits, bk_Mo_boundCost, bk_Mo_orderCost, bk_Mo_areAlike, bk_Mo_blockBits, bk_Mo_fibonacci, bk_Mo_fewestFor, bk_Mo_countFor, bk_Mo_savedAt, bk_Mo_saved, bk_Mo_bestCut, bk_Mo_putWord, bk_Mo_wordAt, bk_Mo_hasTyped, bk_Mo_write, bk_Mo_read, bk_Mo_grows, bk_Mo_begins, bk_Mo_grown, bk_Mo_ungrown, bk_Mo_writeGrowing, bk_Mo_readGrowing, bk_Mo_streamBits, bk_Mo_written, bk_Mo_bitAt, bk_Mo_turn, bk_Mo_byteAt, bk_Mo_ends, bk_Mo_isSteady, bk_Mo_stepAt, bk_Mo_inStep, bk_Mo_lost, bk_Mo_goes, bk_Mo_moves, bk_Mo_unmoves, bk_Mo_runs, bk_Mo_becomes, bk_Mo_unruns, bk_Mo_meanLength, bk_Mo_fullShare, bk_Mo_checksum, bk_Mo_isSound, bk_AL_init, bk_AL_grow1, bk_AL_grow2, bk_AL_size, bk_AL_elementData, bk_AL_get, bk_AL_add1, bk_AL_add2, bk_AL_clear, bk_ABL_init, bk_ABC_init, bk_Ob_checkIndex, bk_Pre_checkIndex, bk_AS_newLength, bk_La_type, bk_La_typeMore, bk_La_typed, bk_La_set, bk_La_count, bk_La_least, bk_La_bounded, bk_La_ordered, bk_La_triple, bk_La_byLengths, bk_La_kindOf, bk_La_signs, bk_La_signAt, bk_La_wordLength, bk_La_wordBit, bk_La_longest, bk_La_bits, bk_La_sum, bk_La_lookup, bk_La_boundCost, bk_La_blockBits, bk_La_fewestFor, bk_La_countFor, bk_La_saved, bk_La_write, bk_La_read, bk_La_bitAt, bk_La_turn, bk_La_byteAt, bk_La_inStep, bk_La_lost, bk_La_runs, bk_La_unruns, bk_La_meanLength, bk_La_fullShare, bk_La_law]
noncomputable def zprog (m L : Nat) : List AI := (zpg.getD m []).getD L []
def zmxlL : List Nat := [2, 1, 2, 3, 2, 4, 3, 1, 4, 3, 3, 3, 4, 3, 6, 4, 3, 1, 1, 3, 3, 7, 5, 5, 5, 4, 4, 6, 2, 9, 5, 5, 4, 6, 3, 5, 1, 8, 3, 3, 3, 2, 2, 5, 3, 3, 1, 5, 2, 7, 8, 1, 5, 7, 1, 1, 3, 3, 1, 3, 11, 2, 1, 2, 5, 2, 1, 2, 1, 2, 2, 1, 2, 2, 1, 2, 2, 4, 4, 6, 2, 3, 2, 6, 1, 2, 1, 3, 4, 3, 2, 5, 3, 3, 1, 1, 1, 1, 2, 2, 2, 4, 7, 1, 3, 1, 3, 4, 5, 4, 2, 1, 1, 2, 1, 1, 1, 2, 1, 2, 2, 1, 1, 3, 1, 6, 2, 2, 4, 2, 1, 3, 2, 5, 3, 5, 3, 2, 4, 7, 5, 5, 7, 7, 2, 3, 5, 4, 5, 4, 3, 2, 6, 1, 1, 1, 1, 3, 3, 1, 2, 2, 13, 2, 1, 2, 4, 2, 6, 4, 3, 3, 10, 4, 13, 4, 9, 9, 7, 8, 3, 1, 2, 2, 1, 1, 12, 4, 2, 1, 2, 7, 2, 7, 7, 3, 3, 4, 7, 4, 2, 2, 9, 2, 1, 2, 1, 8, 5, 5, 4, 3, 2, 2, 3, 6, 8, 4, 3, 4, 7, 2, 9, 11, 1, 1, 1, 1, 2, 2, 4, 5, 7, 6, 3, 6, 8, 3, 3, 4, 4, 5, 7, 4, 8, 9, 1, 4, 1, 1, 2, 2, 4, 2, 4, 1, 1, 2, 3, 4, 4, 12, 4, 5, 4, 3, 4, 3, 3, 3, 4, 4, 5, 5, 6, 4, 4, 4, 6, 4, 4, 4, 5, 4, 4, 4, 4, 4, 4, 5, 5, 3, 3, 4, 3, 9]
def zmxl (m : Nat) : Nat := zmxlL.getD m 0
def zfksL : List (List Nat) := [[1, 2, 2], [2, 2, 2, 2], [2, 2, 2, 2, 2, 0, 0], [2, 2, 2], [2, 0], [2, 2, 2, 2, 0, 2, 2, 2, 2, 2, 2, 2, 2, 2, 2, 2, 2], [2, 2, 0, 2, 2, 2, 0, 2, 0, 0, 0, 2, 2, 2, 2, 2, 2, 2, 2, 2, 2, 2, 2], [0, 2, 0]]
def zfks (c : Nat) : List Nat := zfksL.getD c []
