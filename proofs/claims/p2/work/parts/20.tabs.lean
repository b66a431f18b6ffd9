/-! printed by a program: the methods, their instructions -/
def rx_t0 : List (List rx_E) := [
  [(0, .aload_n 0, 1, 0, 0, 0, 0), (1, .invokespecial 1, 3, 0, 1, 1, 0), (4, .aload_n 0, 1, 0, 0, 0, 0), (5, .new 7, 3, 7, 0, 0, 0), (8, .dup, 1, 0, 0, 0, 0), (9, .invokespecial 9, 3, 103, 1, 3, 0), (12, .putfield 10, 3, 9, 0, 4, 0), (15, .aload_n 0, 1, 0, 0, 0, 0)],
  [(16, .new 16, 3, 8, 0, 0, 0), (19, .dup, 1, 0, 0, 0, 0), (20, .invokespecial 18, 3, 119, 1, 3, 0), (23, .putfield 19, 3, 9, 1, 4, 0), (26, .aload_n 0, 1, 0, 0, 0, 0), (27, .new 16, 3, 8, 0, 0, 0), (30, .dup, 1, 0, 0, 0, 0), (31, .invokespecial 18, 3, 119, 1, 3, 0)],
  [(34, .putfield 23, 3, 9, 2, 4, 0), (37, .aload_n 0, 1, 0, 0, 0, 0), (38, .new 26, 3, 5, 0, 0, 0), (41, .dup, 1, 0, 0, 0, 0), (42, .invokespecial 28, 3, 78, 1, 3, 0), (45, .putfield 29, 3, 9, 3, 4, 0)],
  [(48, .aload_n 0, 1, 0, 0, 0, 0), (49, .new 26, 3, 5, 0, 0, 0), (52, .dup, 1, 0, 0, 0, 0), (53, .invokespecial 28, 3, 78, 1, 3, 0), (56, .putfield 33, 3, 9, 4, 4, 0), (59, .aload_n 0, 1, 0, 0, 0, 0), (60, .new 36, 3, 4, 0, 0, 0), (63, .dup, 1, 0, 0, 0, 0)],
  [(64, .invokespecial 38, 3, 67, 1, 3, 0), (67, .putfield 39, 3, 9, 5, 4, 0), (70, .aload_n 0, 1, 0, 0, 0, 0), (71, .new 36, 3, 4, 0, 0, 0), (74, .dup, 1, 0, 0, 0, 0), (75, .invokespecial 38, 3, 67, 1, 3, 0), (78, .putfield 43, 3, 9, 6, 4, 0)],
  [(81, .aload_n 0, 1, 0, 0, 0, 0), (82, .new 46, 3, 0, 0, 0, 0), (85, .dup, 1, 0, 0, 0, 0), (86, .invokespecial 48, 3, 43, 1, 3, 0), (89, .putfield 49, 3, 9, 7, 4, 0), (92, .aload_n 0, 1, 0, 0, 0, 0), (93, .new 53, 3, 1, 0, 0, 0)],
  [(96, .dup, 1, 0, 0, 0, 0), (97, .invokespecial 55, 3, 51, 1, 3, 0), (100, .putfield 56, 3, 9, 8, 4, 0), (103, .aload_n 0, 1, 0, 0, 0, 0), (104, .iconst 2, 1, 0, 0, 0, 0), (105, .anewarray 60, 3, 2, 0, 0, 0), (108, .putfield 62, 3, 9, 9, 4, 0), (111, .aload_n 0, 1, 0, 0, 0, 0)],
  [(112, .new 66, 3, 3, 0, 0, 0), (115, .dup, 1, 0, 0, 0, 0), (116, .invokespecial 68, 3, 56, 1, 3, 0), (119, .putfield 69, 3, 9, 10, 4, 0), (122, .aload_n 0, 1, 0, 0, 0, 0), (123, .new 73, 3, 6, 0, 0, 0), (126, .dup, 1, 0, 0, 0, 0), (127, .invokespecial 75, 3, 98, 1, 3, 0)],
  [(130, .putfield 76, 3, 9, 11, 4, 0), (133, .aload_n 0, 1, 0, 0, 0, 0), (134, .iconst (-1), 1, 0, 0, 0, 0), (135, .putfield 80, 3, 9, 13, 0, 0), (138, .aload_n 0, 1, 0, 0, 0, 0), (139, .iconst (-1), 1, 0, 0, 0, 0), (140, .putfield 84, 3, 9, 14, 0, 0), (143, .aload_n 0, 1, 0, 0, 0, 0)],
  [(144, .iconst (-1), 1, 0, 0, 0, 0), (145, .putfield 87, 3, 9, 15, 0, 0), (148, .aload_n 0, 1, 0, 0, 0, 0), (149, .iconst (-1), 1, 0, 0, 0, 0), (150, .putfield 90, 3, 9, 16, 0, 0), (153, .aload_n 0, 1, 0, 0, 0, 0), (154, .iconst (-1), 1, 0, 0, 0, 0), (155, .putfield 93, 3, 9, 17, 0, 0), (158, .iconst 0, 1, 0, 0, 0, 0), (159, .istore_n 1, 1, 0, 0, 0, 0)],
  [(160, .iload_n 1, 1, 0, 0, 0, 0), (161, .iconst 2, 1, 0, 0, 0, 0), (162, .if_icmp .ge 22, 3, 0, 0, 0, 0), (165, .aload_n 0, 1, 0, 0, 0, 0), (166, .getfield 62, 3, 9, 9, 4, 0), (169, .iload_n 1, 1, 0, 0, 0, 0), (170, .new 60, 3, 2, 0, 0, 0), (173, .dup, 1, 0, 0, 0, 0), (174, .invokespecial 96, 3, 55, 1, 3, 0)],
  [(177, .aastore, 1, 0, 0, 0, 0), (178, .iinc 1 1, 3, 0, 0, 0, 0), (181, .goto (-21), 3, 0, 0, 0, 0), (184, .return_, 1, 0, 0, 0, 0)]]
/-- LostKeys.<init>()V -/
def rx_m0 : rx_Md := (yX9_init, cX9_init, 2, none, 1, 2, 203, 5142, rx_t0)
def rx_t1 : List (List rx_E) := [
  [(0, .aload_n 0, 1, 0, 0, 0, 0), (1, .getfield 29, 3, 9, 3, 4, 0), (4, .aload_n 0, 1, 0, 0, 0, 0), (5, .getfield 19, 3, 9, 1, 4, 0), (8, .iload_n 1, 1, 0, 0, 0, 0), (9, .iload_n 2, 1, 0, 0, 0, 0), (10, .iload_n 3, 1, 0, 0, 0, 0), (11, .iload 4, 2, 0, 0, 0, 0), (13, .invokevirtual 204, 3, 96, 6, 9, 0)],
  [(16, .istore 5, 2, 0, 0, 0, 0), (18, .iload 5, 2, 0, 0, 0, 0), (20, .ifCond .ne 30, 3, 0, 0, 0, 0), (23, .aload_n 0, 1, 0, 0, 0, 0), (24, .getfield 56, 3, 9, 8, 4, 0), (27, .aload_n 0, 1, 0, 0, 0, 0), (28, .getfield 29, 3, 9, 3, 4, 0), (31, .invokevirtual 208, 3, 53, 2, 5, 0)],
  [(34, .aload_n 0, 1, 0, 0, 0, 0), (35, .getfield 29, 3, 9, 3, 4, 0), (38, .aload_n 0, 1, 0, 0, 0, 0), (39, .getfield 19, 3, 9, 1, 4, 0), (42, .iload_n 1, 1, 0, 0, 0, 0), (43, .iload_n 2, 1, 0, 0, 0, 0), (44, .iload_n 3, 1, 0, 0, 0, 0), (45, .iload 4, 2, 0, 0, 0, 0), (47, .invokevirtual 212, 3, 95, 6, 9, 0)],
  [(50, .iload 5, 2, 0, 0, 0, 0), (52, .ireturn, 1, 0, 0, 0, 0)]]
/-- LostKeys.act(IIII)I -/
def rx_m1 : rx_Md := (yX9_act, cX9_act, 6, (some .int), 5, 1, 0, 0, rx_t1)
def rx_t2 : List (List rx_E) := [
  [(0, .iload_n 1, 1, 0, 0, 0, 0), (1, .ifCond .eq 12, 3, 0, 0, 0, 0), (4, .iload_n 1, 1, 0, 0, 0, 0), (5, .iconst 1, 1, 0, 0, 0, 0), (6, .if_icmp .eq 7, 3, 0, 0, 0, 0), (9, .sipush (-1000), 3, 0, 0, 0, 0), (12, .ireturn, 1, 0, 0, 0, 0), (13, .aload_n 0, 1, 0, 0, 0, 0), (14, .getfield 49, 3, 9, 7, 4, 0)],
  [(17, .aload_n 0, 1, 0, 0, 0, 0), (18, .getfield 10, 3, 9, 0, 4, 0), (21, .aload_n 0, 1, 0, 0, 0, 0), (22, .getfield 19, 3, 9, 1, 4, 0), (25, .invokevirtual 304, 3, 47, 3, 4, 0), (28, .istore_n 2, 1, 0, 0, 0, 0), (29, .aload_n 0, 1, 0, 0, 0, 0), (30, .invokevirtual 108, 3, 9, 1, 13, 0)],
  [(33, .iload_n 2, 1, 0, 0, 0, 0), (34, .ifCond .ne 14, 3, 0, 0, 0, 0), (37, .bipush (-2), 2, 0, 0, 0, 0), (39, .aload_n 0, 1, 0, 0, 0, 0), (40, .getfield 10, 3, 9, 0, 4, 0), (43, .getfield 111, 3, 7, 6, 0, 0), (46, .isub, 1, 0, 0, 0, 0), (47, .ireturn, 1, 0, 0, 0, 0)],
  [(48, .aload_n 0, 1, 0, 0, 0, 0), (49, .getfield 33, 3, 9, 4, 4, 0), (52, .aload_n 0, 1, 0, 0, 0, 0), (53, .getfield 29, 3, 9, 3, 4, 0), (56, .invokevirtual 263, 3, 81, 2, 9, 0), (59, .aload_n 0, 1, 0, 0, 0, 0), (60, .getfield 49, 3, 9, 7, 4, 0), (63, .aload_n 0, 1, 0, 0, 0, 0)],
  [(64, .getfield 19, 3, 9, 1, 4, 0), (67, .aload_n 0, 1, 0, 0, 0, 0), (68, .getfield 33, 3, 9, 4, 4, 0), (71, .invokevirtual 307, 3, 44, 3, 4, 0), (74, .istore_n 3, 1, 0, 0, 0, 0), (75, .iload_n 1, 1, 0, 0, 0, 0), (76, .iconst 1, 1, 0, 0, 0, 0), (77, .if_icmp .ne 34, 3, 0, 0, 0, 0)],
  [(80, .aload_n 0, 1, 0, 0, 0, 0), (81, .getfield 56, 3, 9, 8, 4, 0), (84, .aload_n 0, 1, 0, 0, 0, 0), (85, .getfield 29, 3, 9, 3, 4, 0), (88, .invokevirtual 208, 3, 53, 2, 5, 0), (91, .aload_n 0, 1, 0, 0, 0, 0), (92, .getfield 29, 3, 9, 3, 4, 0), (95, .astore 4, 2, 0, 0, 0, 0)],
  [(97, .aload_n 0, 1, 0, 0, 0, 0), (98, .aload_n 0, 1, 0, 0, 0, 0), (99, .getfield 33, 3, 9, 4, 4, 0), (102, .putfield 29, 3, 9, 3, 4, 0), (105, .aload_n 0, 1, 0, 0, 0, 0), (106, .aload 4, 2, 0, 0, 0, 0), (108, .putfield 33, 3, 9, 4, 4, 0), (111, .iload_n 3, 1, 0, 0, 0, 0)],
  [(112, .ireturn, 1, 0, 0, 0, 0)]]
/-- LostKeys.book(I)I -/
def rx_m2 : rx_Md := (yX9_book, cX9_book, 5, (some .int), 2, 1, 0, 0, rx_t2)
def rx_t3 : List (List rx_E) := [
  [(0, .iload_n 1, 1, 0, 0, 0, 0), (1, .ifCond .lt 14, 3, 0, 0, 0, 0), (4, .iload_n 1, 1, 0, 0, 0, 0), (5, .aload_n 0, 1, 0, 0, 0, 0), (6, .getfield 76, 3, 9, 11, 4, 0), (9, .getfield 296, 3, 6, 1, 0, 0), (12, .if_icmp .lt 7, 3, 0, 0, 0, 0), (15, .iconst (-1), 1, 0, 0, 0, 0)],
  [(16, .goto 12, 3, 0, 0, 0, 0), (19, .aload_n 0, 1, 0, 0, 0, 0), (20, .getfield 76, 3, 9, 11, 4, 0), (23, .getfield 297, 3, 6, 0, 4, 0), (26, .iload_n 1, 1, 0, 0, 0, 0), (27, .baload, 1, 0, 0, 0, 0), (28, .ireturn, 1, 0, 0, 0, 0)]]
/-- LostKeys.byteAt(I)I -/
def rx_m3 : rx_Md := (yX9_byteAt, cX9_byteAt, 2, (some .int), 2, 1, 0, 0, rx_t3)
def rx_t4 : List (List rx_E) := [
  [(0, .iload_n 1, 1, 0, 0, 0, 0), (1, .tableswitch 89 0 7 #[47, 47, 47, 47, 57, 65, 73, 81], 47, 0, 0, 0, 0)],
  [],
  [],
  [(48, .aload_n 0, 1, 0, 0, 0, 0), (49, .getfield 19, 3, 9, 1, 4, 0), (52, .getfield 282, 3, 8, 5, 4, 0), (55, .iload_n 1, 1, 0, 0, 0, 0), (56, .iaload, 1, 0, 0, 0, 0), (57, .ireturn, 1, 0, 0, 0, 0), (58, .aload_n 0, 1, 0, 0, 0, 0), (59, .getfield 19, 3, 9, 1, 4, 0), (62, .getfield 330, 3, 8, 0, 0, 0)],
  [(65, .ireturn, 1, 0, 0, 0, 0), (66, .aload_n 0, 1, 0, 0, 0, 0), (67, .getfield 19, 3, 9, 1, 4, 0), (70, .getfield 333, 3, 8, 1, 0, 0), (73, .ireturn, 1, 0, 0, 0, 0), (74, .aload_n 0, 1, 0, 0, 0, 0), (75, .getfield 19, 3, 9, 1, 4, 0), (78, .getfield 242, 3, 8, 2, 0, 0)],
  [(81, .ireturn, 1, 0, 0, 0, 0), (82, .aload_n 0, 1, 0, 0, 0, 0), (83, .getfield 10, 3, 9, 0, 4, 0), (86, .getfield 97, 3, 7, 2, 0, 0), (89, .ireturn, 1, 0, 0, 0, 0), (90, .iconst (-1), 1, 0, 0, 0, 0), (91, .ireturn, 1, 0, 0, 0, 0)]]
/-- LostKeys.count(I)I -/
def rx_m4 : rx_Md := (yX9_count, cX9_count, 2, (some .int), 2, 1, 0, 0, rx_t4)
def rx_t5 : List (List rx_E) := [
  [(0, .iload_n 1, 1, 0, 0, 0, 0), (1, .iconst 1, 1, 0, 0, 0, 0), (2, .if_icmp .lt 9, 3, 0, 0, 0, 0), (5, .iload_n 1, 1, 0, 0, 0, 0), (6, .bipush 60, 2, 0, 0, 0, 0), (8, .if_icmp .le 5, 3, 0, 0, 0, 0), (11, .iconst (-1), 1, 0, 0, 0, 0), (12, .ireturn, 1, 0, 0, 0, 0), (13, .aload_n 0, 1, 0, 0, 0, 0), (14, .getfield 29, 3, 9, 3, 4, 0)],
  [(17, .invokevirtual 216, 3, 82, 1, 9, 0), (20, .ifCond .le 14, 3, 0, 0, 0, 0), (23, .aload_n 0, 1, 0, 0, 0, 0), (24, .getfield 56, 3, 9, 8, 4, 0), (27, .aload_n 0, 1, 0, 0, 0, 0), (28, .getfield 29, 3, 9, 3, 4, 0), (31, .invokevirtual 208, 3, 53, 2, 5, 0)],
  [(34, .aload_n 0, 1, 0, 0, 0, 0), (35, .getfield 29, 3, 9, 3, 4, 0), (38, .aload_n 0, 1, 0, 0, 0, 0), (39, .getfield 19, 3, 9, 1, 4, 0), (42, .iload_n 1, 1, 0, 0, 0, 0), (43, .invokevirtual 220, 3, 94, 3, 9, 0), (46, .ireturn, 1, 0, 0, 0, 0)]]
/-- LostKeys.days(I)I -/
def rx_m5 : rx_Md := (yX9_days, cX9_days, 2, (some .int), 2, 1, 0, 0, rx_t5)
def rx_t6 : List (List rx_E) := [
  [(0, .iload_n 1, 1, 0, 0, 0, 0), (1, .iconst 1, 1, 0, 0, 0, 0), (2, .if_icmp .lt 21, 3, 0, 0, 0, 0), (5, .iload_n 1, 1, 0, 0, 0, 0), (6, .bipush 60, 2, 0, 0, 0, 0), (8, .if_icmp .gt 15, 3, 0, 0, 0, 0), (11, .aload_n 0, 1, 0, 0, 0, 0), (12, .getfield 19, 3, 9, 1, 4, 0), (15, .getfield 282, 3, 8, 5, 4, 0)],
  [(18, .iconst 2, 1, 0, 0, 0, 0), (19, .iaload, 1, 0, 0, 0, 0), (20, .ifCond .ne 5, 3, 0, 0, 0, 0), (23, .iconst (-1), 1, 0, 0, 0, 0), (24, .ireturn, 1, 0, 0, 0, 0), (25, .aload_n 0, 1, 0, 0, 0, 0), (26, .getfield 29, 3, 9, 3, 4, 0), (29, .invokevirtual 216, 3, 82, 1, 9, 0)],
  [(32, .ifCond .le 14, 3, 0, 0, 0, 0), (35, .aload_n 0, 1, 0, 0, 0, 0), (36, .getfield 56, 3, 9, 8, 4, 0), (39, .aload_n 0, 1, 0, 0, 0, 0), (40, .getfield 29, 3, 9, 3, 4, 0), (43, .invokevirtual 208, 3, 53, 2, 5, 0), (46, .aload_n 0, 1, 0, 0, 0, 0), (47, .getfield 29, 3, 9, 3, 4, 0)],
  [(50, .aload_n 0, 1, 0, 0, 0, 0), (51, .getfield 19, 3, 9, 1, 4, 0), (54, .iload_n 1, 1, 0, 0, 0, 0), (55, .iload_n 2, 1, 0, 0, 0, 0), (56, .invokevirtual 301, 3, 84, 4, 9, 0), (59, .ireturn, 1, 0, 0, 0, 0)]]
/-- LostKeys.drawn(II)I -/
def rx_m6 : rx_Md := (yX9_drawn, cX9_drawn, 3, (some .int), 3, 1, 0, 0, rx_t6)
def rx_t7 : List (List rx_E) := [
  [(0, .aload_n 0, 1, 0, 0, 0, 0), (1, .bipush 7, 2, 0, 0, 0, 0), (3, .iload_n 1, 1, 0, 0, 0, 0), (4, .iload_n 2, 1, 0, 0, 0, 0), (5, .iconst 0, 1, 0, 0, 0, 0), (6, .invokevirtual 200, 3, 1, 5, 13, 0), (9, .ireturn, 1, 0, 0, 0, 0)]]
/-- LostKeys.drop(II)I -/
def rx_m7 : rx_Md := (yX9_drop, cX9_drop, 3, (some .int), 3, 1, 0, 0, rx_t7)
def rx_t8 : List (List rx_E) := [
  [(0, .iload_n 1, 1, 0, 0, 0, 0), (1, .ifCond .lt 14, 3, 0, 0, 0, 0), (4, .iload_n 1, 1, 0, 0, 0, 0), (5, .aload_n 0, 1, 0, 0, 0, 0), (6, .getfield 10, 3, 9, 0, 4, 0), (9, .getfield 97, 3, 7, 2, 0, 0), (12, .if_icmp .le 5, 3, 0, 0, 0, 0), (15, .iconst 0, 1, 0, 0, 0, 0)],
  [(16, .ireturn, 1, 0, 0, 0, 0), (17, .aload_n 0, 1, 0, 0, 0, 0), (18, .getfield 10, 3, 9, 0, 4, 0), (21, .iload_n 1, 1, 0, 0, 0, 0), (22, .putfield 97, 3, 7, 2, 0, 0), (25, .iconst 1, 1, 0, 0, 0, 0), (26, .ireturn, 1, 0, 0, 0, 0)]]
/-- LostKeys.end(I)Z -/
def rx_m8 : rx_Md := (yX9_end, cX9_end, 2, (some .boolean), 2, 1, 0, 0, rx_t8)
def rx_t9 : List (List rx_E) := [
  [(0, .aload_n 0, 1, 0, 0, 0, 0), (1, .aload_n 0, 1, 0, 0, 0, 0), (2, .getfield 10, 3, 9, 0, 4, 0), (5, .getfield 314, 3, 7, 13, 0, 0), (8, .putfield 124, 3, 9, 12, 0, 0), (11, .aload_n 0, 1, 0, 0, 0, 0), (12, .getfield 10, 3, 9, 0, 4, 0), (15, .iconst 0, 1, 0, 0, 0, 0)],
  [(16, .putfield 97, 3, 7, 2, 0, 0), (19, .return_, 1, 0, 0, 0, 0)]]
/-- LostKeys.endReading()V -/
def rx_m9 : rx_Md := (yX9_endReading, cX9_endReading, 1, none, 1, 1, 0, 0, rx_t9)
def rx_t10 : List (List rx_E) := [
  [(0, .aload_n 0, 1, 0, 0, 0, 0), (1, .getfield 124, 3, 9, 12, 0, 0), (4, .ireturn, 1, 0, 0, 0, 0)]]
/-- LostKeys.fault()I -/
def rx_m10 : rx_Md := (yX9_fault, cX9_fault, 1, (some .int), 1, 1, 0, 0, rx_t10)
def rx_t11 : List (List rx_E) := [
  [(0, .aload_n 0, 1, 0, 0, 0, 0), (1, .getfield 10, 3, 9, 0, 4, 0), (4, .getfield 97, 3, 7, 2, 0, 0), (7, .sipush 920, 3, 0, 0, 0, 0), (10, .if_icmp .le 5, 3, 0, 0, 0, 0), (13, .iconst (-1), 1, 0, 0, 0, 0), (14, .ireturn, 1, 0, 0, 0, 0), (15, .aload_n 0, 1, 0, 0, 0, 0)],
  [(16, .getfield 10, 3, 9, 0, 4, 0), (19, .iload_n 1, 1, 0, 0, 0, 0), (20, .invokevirtual 100, 3, 110, 2, 11, 0), (23, .aload_n 0, 1, 0, 0, 0, 0), (24, .getfield 10, 3, 9, 0, 4, 0), (27, .iload_n 2, 1, 0, 0, 0, 0), (28, .invokevirtual 100, 3, 110, 2, 11, 0), (31, .aload_n 0, 1, 0, 0, 0, 0)],
  [(32, .getfield 10, 3, 9, 0, 4, 0), (35, .iload_n 3, 1, 0, 0, 0, 0), (36, .invokevirtual 100, 3, 110, 2, 11, 0), (39, .aload_n 0, 1, 0, 0, 0, 0), (40, .getfield 10, 3, 9, 0, 4, 0), (43, .iload 4, 2, 0, 0, 0, 0), (45, .invokevirtual 100, 3, 110, 2, 11, 0)],
  [(48, .aload_n 0, 1, 0, 0, 0, 0), (49, .getfield 10, 3, 9, 0, 4, 0), (52, .iload 5, 2, 0, 0, 0, 0), (54, .invokevirtual 100, 3, 110, 2, 11, 0), (57, .aload_n 0, 1, 0, 0, 0, 0), (58, .getfield 10, 3, 9, 0, 4, 0), (61, .getfield 97, 3, 7, 2, 0, 0)],
  [(64, .ireturn, 1, 0, 0, 0, 0)]]
/-- LostKeys.feed(IIIII)I -/
def rx_m11 : rx_Md := (yX9_feed, cX9_feed, 6, (some .int), 6, 1, 0, 0, rx_t11)
def rx_t12 : List (List rx_E) := [
  [(0, .aload_n 0, 1, 0, 0, 0, 0), (1, .getfield 19, 3, 9, 1, 4, 0), (4, .iconst 3, 1, 0, 0, 0, 0), (5, .iload_n 1, 1, 0, 0, 0, 0), (6, .invokevirtual 127, 3, 125, 3, 12, 0), (9, .ifCond .eq 16, 3, 0, 0, 0, 0), (12, .aload_n 0, 1, 0, 0, 0, 0), (13, .getfield 29, 3, 9, 3, 4, 0)],
  [(16, .getfield 156, 3, 5, 6, 4, 0), (19, .iload_n 1, 1, 0, 0, 0, 0), (20, .iaload, 1, 0, 0, 0, 0), (21, .iconst (-1), 1, 0, 0, 0, 0), (22, .if_icmp .eq 5, 3, 0, 0, 0, 0), (25, .iconst (-1), 1, 0, 0, 0, 0), (26, .ireturn, 1, 0, 0, 0, 0), (27, .aload_n 0, 1, 0, 0, 0, 0), (28, .iload_n 1, 1, 0, 0, 0, 0), (29, .aload_n 0, 1, 0, 0, 0, 0), (30, .getfield 19, 3, 9, 1, 4, 0)],
  [(33, .aload_n 0, 1, 0, 0, 0, 0), (34, .getfield 29, 3, 9, 3, 4, 0), (37, .getfield 159, 3, 5, 7, 4, 0), (40, .iload_n 1, 1, 0, 0, 0, 0), (41, .iaload, 1, 0, 0, 0, 0), (42, .aload_n 0, 1, 0, 0, 0, 0), (43, .getfield 29, 3, 9, 3, 4, 0), (46, .getfield 162, 3, 5, 8, 4, 0)],
  [(49, .iload_n 1, 1, 0, 0, 0, 0), (50, .iaload, 1, 0, 0, 0, 0), (51, .invokevirtual 230, 3, 128, 3, 12, 0), (54, .invokevirtual 239, 3, 25, 3, 13, 0), (57, .istore_n 2, 1, 0, 0, 0, 0), (58, .iload_n 2, 1, 0, 0, 0, 0), (59, .ifCond .gt 5, 3, 0, 0, 0, 0), (62, .iload_n 2, 1, 0, 0, 0, 0), (63, .ireturn, 1, 0, 0, 0, 0)],
  [(64, .aload_n 0, 1, 0, 0, 0, 0), (65, .getfield 19, 3, 9, 1, 4, 0), (68, .getfield 242, 3, 8, 2, 0, 0), (71, .iconst 1, 1, 0, 0, 0, 0), (72, .if_icmp .ge 5, 3, 0, 0, 0, 0), (75, .iconst (-1), 1, 0, 0, 0, 0), (76, .ireturn, 1, 0, 0, 0, 0), (77, .iload_n 2, 1, 0, 0, 0, 0), (78, .aload_n 0, 1, 0, 0, 0, 0), (79, .getfield 19, 3, 9, 1, 4, 0)],
  [(82, .getfield 242, 3, 8, 2, 0, 0), (85, .imul, 1, 0, 0, 0, 0), (86, .aload_n 0, 1, 0, 0, 0, 0), (87, .getfield 29, 3, 9, 3, 4, 0), (90, .getfield 168, 3, 5, 10, 4, 0), (93, .iload_n 1, 1, 0, 0, 0, 0), (94, .iaload, 1, 0, 0, 0, 0), (95, .aload_n 0, 1, 0, 0, 0, 0)],
  [(96, .getfield 19, 3, 9, 1, 4, 0), (99, .getfield 242, 3, 8, 2, 0, 0), (102, .irem, 1, 0, 0, 0, 0), (103, .isub, 1, 0, 0, 0, 0), (104, .istore_n 3, 1, 0, 0, 0, 0), (105, .iload_n 3, 1, 0, 0, 0, 0), (106, .aload_n 0, 1, 0, 0, 0, 0), (107, .getfield 29, 3, 9, 3, 4, 0), (110, .invokevirtual 216, 3, 82, 1, 9, 0)],
  [(113, .if_icmp .le 7, 3, 0, 0, 0, 0), (116, .iconst (-1), 1, 0, 0, 0, 0), (117, .goto 4, 3, 0, 0, 0, 0), (120, .iload_n 3, 1, 0, 0, 0, 0), (121, .ireturn, 1, 0, 0, 0, 0)]]
/-- LostKeys.fitting(I)I -/
def rx_m12 : rx_Md := (yX9_fitting, cX9_fitting, 4, (some .int), 2, 1, 0, 0, rx_t12)
def rx_t13 : List (List rx_E) := [
  [(0, .aload_n 0, 1, 0, 0, 0, 0), (1, .getfield 10, 3, 9, 0, 4, 0), (4, .getfield 97, 3, 7, 2, 0, 0), (7, .iconst 4, 1, 0, 0, 0, 0), (8, .if_icmp .ne 42, 3, 0, 0, 0, 0), (11, .aload_n 0, 1, 0, 0, 0, 0), (12, .aload_n 0, 1, 0, 0, 0, 0), (13, .getfield 10, 3, 9, 0, 4, 0)],
  [(16, .iconst 0, 1, 0, 0, 0, 0), (17, .invokevirtual 276, 3, 107, 2, 11, 0), (20, .aload_n 0, 1, 0, 0, 0, 0), (21, .getfield 10, 3, 9, 0, 4, 0), (24, .iconst 1, 1, 0, 0, 0, 0), (25, .invokevirtual 276, 3, 107, 2, 11, 0), (28, .aload_n 0, 1, 0, 0, 0, 0), (29, .getfield 10, 3, 9, 0, 4, 0)],
  [(32, .iconst 2, 1, 0, 0, 0, 0), (33, .invokevirtual 276, 3, 107, 2, 11, 0), (36, .aload_n 0, 1, 0, 0, 0, 0), (37, .getfield 10, 3, 9, 0, 4, 0), (40, .iconst 3, 1, 0, 0, 0, 0), (41, .invokevirtual 276, 3, 107, 2, 11, 0), (44, .invokevirtual 279, 3, 15, 5, 13, 0), (47, .goto 4, 3, 0, 0, 0, 0)],
  [(50, .iconst (-1), 1, 0, 0, 0, 0), (51, .istore_n 1, 1, 0, 0, 0, 0), (52, .aload_n 0, 1, 0, 0, 0, 0), (53, .getfield 10, 3, 9, 0, 4, 0), (56, .iconst 0, 1, 0, 0, 0, 0), (57, .putfield 97, 3, 7, 2, 0, 0), (60, .iload_n 1, 1, 0, 0, 0, 0), (61, .ireturn, 1, 0, 0, 0, 0)]]
/-- LostKeys.found()I -/
def rx_m13 : rx_Md := (yX9_found, cX9_found, 2, (some .int), 1, 1, 0, 0, rx_t13)
def rx_t14 : List (List rx_E) := [
  [(0, .iload_n 1, 1, 0, 0, 0, 0), (1, .ifCond .lt 8, 3, 0, 0, 0, 0), (4, .iload_n 1, 1, 0, 0, 0, 0), (5, .iconst 2, 1, 0, 0, 0, 0), (6, .if_icmp .lt 5, 3, 0, 0, 0, 0), (9, .iconst 0, 1, 0, 0, 0, 0), (10, .ireturn, 1, 0, 0, 0, 0), (11, .aload_n 0, 1, 0, 0, 0, 0), (12, .getfield 62, 3, 9, 9, 4, 0), (15, .iload_n 1, 1, 0, 0, 0, 0)],
  [(16, .aaload, 1, 0, 0, 0, 0), (17, .astore_n 2, 1, 0, 0, 0, 0), (18, .aload_n 2, 1, 0, 0, 0, 0), (19, .iconst 1, 1, 0, 0, 0, 0), (20, .putfield 318, 3, 2, 0, 2, 0), (23, .aload_n 2, 1, 0, 0, 0, 0), (24, .getfield 322, 3, 2, 1, 4, 0), (27, .aload_n 0, 1, 0, 0, 0, 0), (28, .getfield 19, 3, 9, 1, 4, 0), (31, .invokevirtual 323, 3, 122, 2, 12, 0)],
  [(34, .aload_n 2, 1, 0, 0, 0, 0), (35, .getfield 325, 3, 2, 2, 4, 0), (38, .aload_n 0, 1, 0, 0, 0, 0), (39, .getfield 29, 3, 9, 3, 4, 0), (42, .invokevirtual 263, 3, 81, 2, 9, 0), (45, .aload_n 2, 1, 0, 0, 0, 0), (46, .getfield 326, 3, 2, 3, 4, 0)],
  [(49, .aload_n 0, 1, 0, 0, 0, 0), (50, .getfield 39, 3, 9, 5, 4, 0), (53, .invokevirtual 327, 3, 69, 2, 8, 0), (56, .iconst 1, 1, 0, 0, 0, 0), (57, .ireturn, 1, 0, 0, 0, 0)]]
/-- LostKeys.image(I)Z -/
def rx_m14 : rx_Md := (yX9_image, cX9_image, 3, (some .boolean), 2, 1, 0, 0, rx_t14)
def rx_t15 : List (List rx_E) := [
  [(0, .aload_n 0, 1, 0, 0, 0, 0), (1, .getfield 19, 3, 9, 1, 4, 0), (4, .iload_n 1, 1, 0, 0, 0, 0), (5, .iload_n 2, 1, 0, 0, 0, 0), (6, .invokevirtual 230, 3, 128, 3, 12, 0), (9, .iconst (-1), 1, 0, 0, 0, 0), (10, .if_icmp .eq 9, 3, 0, 0, 0, 0), (13, .iload_n 3, 1, 0, 0, 0, 0), (14, .bipush 63, 2, 0, 0, 0, 0)],
  [(16, .if_icmp .le 5, 3, 0, 0, 0, 0), (19, .iconst (-1), 1, 0, 0, 0, 0), (20, .ireturn, 1, 0, 0, 0, 0), (21, .iconst 0, 1, 0, 0, 0, 0), (22, .istore 5, 2, 0, 0, 0, 0), (24, .iconst 0, 1, 0, 0, 0, 0), (25, .istore 6, 2, 0, 0, 0, 0), (27, .iload 6, 2, 0, 0, 0, 0), (29, .aload_n 0, 1, 0, 0, 0, 0), (30, .getfield 19, 3, 9, 1, 4, 0)],
  [(33, .getfield 282, 3, 8, 5, 4, 0), (36, .iconst 3, 1, 0, 0, 0, 0), (37, .iaload, 1, 0, 0, 0, 0), (38, .if_icmp .ge 35, 3, 0, 0, 0, 0), (41, .aload_n 0, 1, 0, 0, 0, 0), (42, .getfield 19, 3, 9, 1, 4, 0), (45, .iload 6, 2, 0, 0, 0, 0), (47, .iload_n 1, 1, 0, 0, 0, 0)],
  [(48, .iload_n 2, 1, 0, 0, 0, 0), (49, .iload 4, 2, 0, 0, 0, 0), (51, .invokevirtual 285, 3, 140, 5, 12, 0), (54, .iload_n 3, 1, 0, 0, 0, 0), (55, .if_icmp .ne 12, 3, 0, 0, 0, 0), (58, .iload 5, 2, 0, 0, 0, 0), (60, .iconst 1, 1, 0, 0, 0, 0), (61, .iload 6, 2, 0, 0, 0, 0), (63, .ishl, 1, 0, 0, 0, 0)],
  [(64, .ior, 1, 0, 0, 0, 0), (65, .istore 5, 2, 0, 0, 0, 0), (67, .iinc 6 1, 3, 0, 0, 0, 0), (70, .goto (-43), 3, 0, 0, 0, 0), (73, .iload 5, 2, 0, 0, 0, 0), (75, .ifCond .le 22, 3, 0, 0, 0, 0), (78, .aload_n 0, 1, 0, 0, 0, 0), (79, .aload_n 0, 1, 0, 0, 0, 0)],
  [(80, .getfield 69, 3, 9, 10, 4, 0), (83, .aload_n 0, 1, 0, 0, 0, 0), (84, .getfield 19, 3, 9, 1, 4, 0), (87, .iload 5, 2, 0, 0, 0, 0), (89, .iload 4, 2, 0, 0, 0, 0), (91, .invokevirtual 288, 3, 66, 4, 7, 0), (94, .putfield 87, 3, 9, 15, 0, 0)],
  [(97, .iload 5, 2, 0, 0, 0, 0), (99, .ireturn, 1, 0, 0, 0, 0)]]
/-- LostKeys.keysFoundBy(IIII)I -/
def rx_m15 : rx_Md := (yX9_keysFoundBy, cX9_keysFoundBy, 7, (some .int), 5, 1, 0, 0, rx_t15)
def rx_t16 : List (List rx_E) := [
  [(0, .aload_n 0, 1, 0, 0, 0, 0), (1, .getfield 19, 3, 9, 1, 4, 0), (4, .iconst 1, 1, 0, 0, 0, 0), (5, .iload_n 1, 1, 0, 0, 0, 0), (6, .invokevirtual 127, 3, 125, 3, 12, 0), (9, .ifCond .ne 5, 3, 0, 0, 0, 0), (12, .iconst (-1), 1, 0, 0, 0, 0), (13, .ireturn, 1, 0, 0, 0, 0), (14, .iload_n 2, 1, 0, 0, 0, 0), (15, .tableswitch 99 0 5 #[37, 47, 57, 67, 77, 87], 37, 0, 0, 0, 0)],
  [],
  [],
  [(52, .aload_n 0, 1, 0, 0, 0, 0), (53, .getfield 19, 3, 9, 1, 4, 0), (56, .getfield 131, 3, 8, 7, 4, 0), (59, .iload_n 1, 1, 0, 0, 0, 0), (60, .iaload, 1, 0, 0, 0, 0), (61, .ireturn, 1, 0, 0, 0, 0), (62, .aload_n 0, 1, 0, 0, 0, 0), (63, .getfield 19, 3, 9, 1, 4, 0)],
  [(66, .getfield 135, 3, 8, 8, 4, 0), (69, .iload_n 1, 1, 0, 0, 0, 0), (70, .iaload, 1, 0, 0, 0, 0), (71, .ireturn, 1, 0, 0, 0, 0), (72, .aload_n 0, 1, 0, 0, 0, 0), (73, .getfield 19, 3, 9, 1, 4, 0), (76, .getfield 138, 3, 8, 9, 4, 0), (79, .iload_n 1, 1, 0, 0, 0, 0)],
  [(80, .iaload, 1, 0, 0, 0, 0), (81, .ireturn, 1, 0, 0, 0, 0), (82, .aload_n 0, 1, 0, 0, 0, 0), (83, .getfield 19, 3, 9, 1, 4, 0), (86, .getfield 141, 3, 8, 10, 4, 0), (89, .iload_n 1, 1, 0, 0, 0, 0), (90, .iaload, 1, 0, 0, 0, 0), (91, .ireturn, 1, 0, 0, 0, 0), (92, .aload_n 0, 1, 0, 0, 0, 0), (93, .getfield 19, 3, 9, 1, 4, 0)],
  [(96, .getfield 144, 3, 8, 11, 4, 0), (99, .iload_n 1, 1, 0, 0, 0, 0), (100, .iaload, 1, 0, 0, 0, 0), (101, .ireturn, 1, 0, 0, 0, 0), (102, .aload_n 0, 1, 0, 0, 0, 0), (103, .getfield 29, 3, 9, 3, 4, 0), (106, .getfield 147, 3, 5, 1, 0, 0), (109, .iload_n 1, 1, 0, 0, 0, 0), (110, .ishr, 1, 0, 0, 0, 0), (111, .iconst 1, 1, 0, 0, 0, 0)],
  [(112, .iand, 1, 0, 0, 0, 0), (113, .ireturn, 1, 0, 0, 0, 0), (114, .iconst (-1), 1, 0, 0, 0, 0), (115, .ireturn, 1, 0, 0, 0, 0)]]
/-- LostKeys.lock(II)I -/
def rx_m16 : rx_Md := (yX9_lock, cX9_lock, 3, (some .int), 3, 1, 0, 0, rx_t16)
def rx_t17 : List (List rx_E) := [
  [(0, .aload_n 0, 1, 0, 0, 0, 0), (1, .iload_n 1, 1, 0, 0, 0, 0), (2, .iload_n 2, 1, 0, 0, 0, 0), (3, .invokevirtual 239, 3, 25, 3, 13, 0), (6, .istore_n 3, 1, 0, 0, 0, 0), (7, .aload_n 0, 1, 0, 0, 0, 0), (8, .getfield 19, 3, 9, 1, 4, 0), (11, .iload_n 2, 1, 0, 0, 0, 0), (12, .invokevirtual 245, 3, 123, 2, 12, 0), (15, .istore 4, 2, 0, 0, 0, 0)],
  [(17, .iload_n 3, 1, 0, 0, 0, 0), (18, .iconst (-1), 1, 0, 0, 0, 0), (19, .if_icmp .eq 9, 3, 0, 0, 0, 0), (22, .iload 4, 2, 0, 0, 0, 0), (24, .iconst (-1), 1, 0, 0, 0, 0), (25, .if_icmp .ne 5, 3, 0, 0, 0, 0), (28, .iconst (-1), 1, 0, 0, 0, 0), (29, .ireturn, 1, 0, 0, 0, 0), (30, .iconst 1, 1, 0, 0, 0, 0), (31, .iload_n 3, 1, 0, 0, 0, 0)],
  [(32, .invokestatic 248, 3, 0, 2, 5, 0), (35, .aload_n 0, 1, 0, 0, 0, 0), (36, .getfield 19, 3, 9, 1, 4, 0), (39, .getfield 242, 3, 8, 2, 0, 0), (42, .imul, 1, 0, 0, 0, 0), (43, .istore 5, 2, 0, 0, 0, 0), (45, .iload 5, 2, 0, 0, 0, 0), (47, .aload_n 0, 1, 0, 0, 0, 0)],
  [(48, .getfield 29, 3, 9, 3, 4, 0), (51, .invokevirtual 216, 3, 82, 1, 9, 0), (54, .if_icmp .le 5, 3, 0, 0, 0, 0), (57, .iconst (-1), 1, 0, 0, 0, 0), (58, .ireturn, 1, 0, 0, 0, 0), (59, .aload_n 0, 1, 0, 0, 0, 0), (60, .iload 4, 2, 0, 0, 0, 0), (62, .bipush 6, 2, 0, 0, 0, 0)],
  [(64, .irem, 1, 0, 0, 0, 0), (65, .putfield 80, 3, 9, 13, 0, 0), (68, .aload_n 0, 1, 0, 0, 0, 0), (69, .iload 4, 2, 0, 0, 0, 0), (71, .bipush 6, 2, 0, 0, 0, 0), (73, .idiv, 1, 0, 0, 0, 0), (74, .putfield 84, 3, 9, 14, 0, 0), (77, .iload 5, 2, 0, 0, 0, 0), (79, .ireturn, 1, 0, 0, 0, 0)]]
/-- LostKeys.losing(II)I -/
def rx_m17 : rx_Md := (yX9_losing, cX9_losing, 6, (some .int), 3, 1, 0, 0, rx_t17)
def rx_t18 : List (List rx_E) := [
  [(0, .iload_n 1, 1, 0, 0, 0, 0), (1, .lookupswitch 37 #[(0, 27), (1, 32)], 27, 0, 0, 0, 0)],
  [(28, .aload_n 0, 1, 0, 0, 0, 0), (29, .getfield 80, 3, 9, 13, 0, 0)],
  [(32, .ireturn, 1, 0, 0, 0, 0), (33, .aload_n 0, 1, 0, 0, 0, 0), (34, .getfield 84, 3, 9, 14, 0, 0), (37, .ireturn, 1, 0, 0, 0, 0), (38, .iconst (-1), 1, 0, 0, 0, 0), (39, .ireturn, 1, 0, 0, 0, 0)]]
/-- LostKeys.lost(I)I -/
def rx_m18 : rx_Md := (yX9_lost, cX9_lost, 2, (some .int), 2, 1, 0, 0, rx_t18)
def rx_t19 : List (List rx_E) := [
  [(0, .iload_n 0, 1, 0, 0, 0, 0), (1, .ifCond .ne 7, 3, 0, 0, 0, 0), (4, .iconst (-1), 1, 0, 0, 0, 0), (5, .goto 7, 3, 0, 0, 0, 0), (8, .iload_n 0, 1, 0, 0, 0, 0), (9, .invokestatic 336, 3, 275, 1, 0, 0), (12, .ireturn, 1, 0, 0, 0, 0)]]
/-- LostKeys.lowest(I)I -/
def rx_m19 : rx_Md := (yX9_lowest, cX9_lowest, 1, (some .int), 1, 0, 0, 0, rx_t19)
def rx_t20 : List (List rx_E) := [
  [(0, .aload_n 0, 1, 0, 0, 0, 0), (1, .getfield 69, 3, 9, 10, 4, 0), (4, .aload_n 0, 1, 0, 0, 0, 0), (5, .getfield 19, 3, 9, 1, 4, 0), (8, .aload_n 0, 1, 0, 0, 0, 0), (9, .getfield 29, 3, 9, 3, 4, 0), (12, .invokevirtual 253, 3, 63, 3, 7, 0), (15, .ireturn, 1, 0, 0, 0, 0)]]
/-- LostKeys.match()I -/
def rx_m20 : rx_Md := (yX9_match, cX9_match, 1, (some .int), 1, 1, 0, 0, rx_t20)
def rx_t21 : List (List rx_E) := [
  [(0, .iload_n 1, 1, 0, 0, 0, 0), (1, .ifCond .lt 9, 3, 0, 0, 0, 0), (4, .iload_n 1, 1, 0, 0, 0, 0), (5, .bipush 6, 2, 0, 0, 0, 0), (7, .if_icmp .lt 7, 3, 0, 0, 0, 0), (10, .iconst (-1), 1, 0, 0, 0, 0), (11, .goto 12, 3, 0, 0, 0, 0), (14, .aload_n 0, 1, 0, 0, 0, 0), (15, .getfield 69, 3, 9, 10, 4, 0)],
  [(18, .getfield 257, 3, 3, 2, 4, 0), (21, .iload_n 1, 1, 0, 0, 0, 0), (22, .iaload, 1, 0, 0, 0, 0), (23, .ireturn, 1, 0, 0, 0, 0)]]
/-- LostKeys.matched(I)I -/
def rx_m21 : rx_Md := (yX9_matched, cX9_matched, 2, (some .int), 2, 1, 0, 0, rx_t21)
def rx_t22 : List (List rx_E) := [
  [(0, .aload_n 0, 1, 0, 0, 0, 0), (1, .getfield 19, 3, 9, 1, 4, 0), (4, .iload_n 1, 1, 0, 0, 0, 0), (5, .iload_n 2, 1, 0, 0, 0, 0), (6, .invokevirtual 230, 3, 128, 3, 12, 0), (9, .ireturn, 1, 0, 0, 0, 0)]]
/-- LostKeys.nearest(II)I -/
def rx_m22 : rx_Md := (yX9_nearest, cX9_nearest, 3, (some .int), 3, 1, 0, 0, rx_t22)
def rx_t23 : List (List rx_E) := [
  [(0, .iload_n 1, 1, 0, 0, 0, 0), (1, .tableswitch 80 0 4 #[35, 43, 56, 64, 72], 35, 0, 0, 0, 0)],
  [],
  [(36, .aload_n 0, 1, 0, 0, 0, 0), (37, .getfield 29, 3, 9, 3, 4, 0), (40, .getfield 191, 3, 5, 0, 0, 0), (43, .ireturn, 1, 0, 0, 0, 0), (44, .aload_n 0, 1, 0, 0, 0, 0), (45, .getfield 29, 3, 9, 3, 4, 0)],
  [(48, .aload_n 0, 1, 0, 0, 0, 0), (49, .getfield 19, 3, 9, 1, 4, 0), (52, .iconst (-1), 1, 0, 0, 0, 0), (53, .invokevirtual 184, 3, 89, 3, 9, 0), (56, .ireturn, 1, 0, 0, 0, 0), (57, .aload_n 0, 1, 0, 0, 0, 0), (58, .getfield 29, 3, 9, 3, 4, 0), (61, .getfield 147, 3, 5, 1, 0, 0)],
  [(64, .ireturn, 1, 0, 0, 0, 0), (65, .aload_n 0, 1, 0, 0, 0, 0), (66, .getfield 29, 3, 9, 3, 4, 0), (69, .getfield 194, 3, 5, 2, 0, 0), (72, .ireturn, 1, 0, 0, 0, 0), (73, .aload_n 0, 1, 0, 0, 0, 0), (74, .getfield 29, 3, 9, 3, 4, 0), (77, .getfield 197, 3, 5, 3, 0, 0)],
  [(80, .ireturn, 1, 0, 0, 0, 0), (81, .iconst (-1), 1, 0, 0, 0, 0), (82, .ireturn, 1, 0, 0, 0, 0)]]
/-- LostKeys.now(I)I -/
def rx_m23 : rx_Md := (yX9_now, cX9_now, 2, (some .int), 2, 1, 0, 0, rx_t23)
def rx_t24 : List (List rx_E) := [
  [(0, .aload_n 0, 1, 0, 0, 0, 0), (1, .getfield 19, 3, 9, 1, 4, 0), (4, .iconst 1, 1, 0, 0, 0, 0), (5, .iload_n 1, 1, 0, 0, 0, 0), (6, .invokevirtual 127, 3, 125, 3, 12, 0), (9, .ifCond .eq 14, 3, 0, 0, 0, 0), (12, .iload_n 2, 1, 0, 0, 0, 0), (13, .iconst 1, 1, 0, 0, 0, 0), (14, .if_icmp .lt 9, 3, 0, 0, 0, 0)],
  [(17, .iload_n 2, 1, 0, 0, 0, 0), (18, .bipush 30, 2, 0, 0, 0, 0), (20, .if_icmp .le 5, 3, 0, 0, 0, 0), (23, .iconst (-1), 1, 0, 0, 0, 0), (24, .ireturn, 1, 0, 0, 0, 0), (25, .iconst 0, 1, 0, 0, 0, 0), (26, .istore 4, 2, 0, 0, 0, 0), (28, .iconst 0, 1, 0, 0, 0, 0), (29, .istore 5, 2, 0, 0, 0, 0), (31, .iload 5, 2, 0, 0, 0, 0)],
  [(33, .iload_n 2, 1, 0, 0, 0, 0), (34, .if_icmp .ge 54, 3, 0, 0, 0, 0), (37, .aload_n 0, 1, 0, 0, 0, 0), (38, .getfield 33, 3, 9, 4, 4, 0), (41, .aload_n 0, 1, 0, 0, 0, 0), (42, .getfield 29, 3, 9, 3, 4, 0), (45, .invokevirtual 263, 3, 81, 2, 9, 0)],
  [(48, .aload_n 0, 1, 0, 0, 0, 0), (49, .getfield 33, 3, 9, 4, 4, 0), (52, .aload_n 0, 1, 0, 0, 0, 0), (53, .getfield 19, 3, 9, 1, 4, 0), (56, .bipush 20, 2, 0, 0, 0, 0), (58, .iload_n 3, 1, 0, 0, 0, 0), (59, .iload 5, 2, 0, 0, 0, 0), (61, .iadd, 1, 0, 0, 0, 0), (62, .invokevirtual 301, 3, 84, 4, 9, 0)],
  [(65, .pop, 1, 0, 0, 0, 0), (66, .iload 4, 2, 0, 0, 0, 0), (68, .aload_n 0, 1, 0, 0, 0, 0), (69, .getfield 33, 3, 9, 4, 4, 0), (72, .getfield 147, 3, 5, 1, 0, 0), (75, .iload_n 1, 1, 0, 0, 0, 0), (76, .ishr, 1, 0, 0, 0, 0), (77, .iconst 1, 1, 0, 0, 0, 0), (78, .iand, 1, 0, 0, 0, 0), (79, .iadd, 1, 0, 0, 0, 0)],
  [(80, .istore 4, 2, 0, 0, 0, 0), (82, .iinc 5 1, 3, 0, 0, 0, 0), (85, .goto (-54), 3, 0, 0, 0, 0), (88, .iload 4, 2, 0, 0, 0, 0), (90, .ireturn, 1, 0, 0, 0, 0)]]
/-- LostKeys.odds(III)I -/
def rx_m24 : rx_Md := (yX9_odds, cX9_odds, 6, (some .int), 4, 1, 0, 0, rx_t24)
def rx_t25 : List (List rx_E) := [
  [(0, .aload_n 0, 1, 0, 0, 0, 0), (1, .getfield 19, 3, 9, 1, 4, 0), (4, .iconst 3, 1, 0, 0, 0, 0), (5, .iload_n 1, 1, 0, 0, 0, 0), (6, .invokevirtual 127, 3, 125, 3, 12, 0), (9, .ifCond .eq 15, 3, 0, 0, 0, 0), (12, .aload_n 0, 1, 0, 0, 0, 0), (13, .getfield 19, 3, 9, 1, 4, 0)],
  [(16, .iconst 1, 1, 0, 0, 0, 0), (17, .iload_n 2, 1, 0, 0, 0, 0), (18, .invokevirtual 127, 3, 125, 3, 12, 0), (21, .ifCond .ne 5, 3, 0, 0, 0, 0), (24, .iconst (-1), 1, 0, 0, 0, 0), (25, .ireturn, 1, 0, 0, 0, 0), (26, .aload_n 0, 1, 0, 0, 0, 0), (27, .getfield 29, 3, 9, 3, 4, 0), (30, .getfield 165, 3, 5, 9, 4, 0)],
  [(33, .iload_n 1, 1, 0, 0, 0, 0), (34, .iaload, 1, 0, 0, 0, 0), (35, .aload_n 0, 1, 0, 0, 0, 0), (36, .getfield 19, 3, 9, 1, 4, 0), (39, .getfield 144, 3, 8, 11, 4, 0), (42, .iload_n 2, 1, 0, 0, 0, 0), (43, .iaload, 1, 0, 0, 0, 0), (44, .ixor, 1, 0, 0, 0, 0), (45, .invokestatic 234, 3, 274, 1, 0, 0)],
  [(48, .ireturn, 1, 0, 0, 0, 0)]]
/-- LostKeys.off(II)I -/
def rx_m25 : rx_Md := (yX9_off, cX9_off, 3, (some .int), 3, 1, 0, 0, rx_t25)
def rx_t26 : List (List rx_E) := [
  [(0, .aload_n 0, 1, 0, 0, 0, 0), (1, .getfield 33, 3, 9, 4, 4, 0), (4, .aload_n 0, 1, 0, 0, 0, 0), (5, .getfield 29, 3, 9, 3, 4, 0), (8, .invokevirtual 263, 3, 81, 2, 9, 0), (11, .aload_n 0, 1, 0, 0, 0, 0), (12, .getfield 33, 3, 9, 4, 4, 0), (15, .aload_n 0, 1, 0, 0, 0, 0)],
  [(16, .getfield 19, 3, 9, 1, 4, 0), (19, .iload_n 1, 1, 0, 0, 0, 0), (20, .invokevirtual 220, 3, 94, 3, 9, 0), (23, .pop, 1, 0, 0, 0, 0), (24, .aload_n 0, 1, 0, 0, 0, 0), (25, .getfield 33, 3, 9, 4, 4, 0), (28, .getfield 147, 3, 5, 1, 0, 0), (31, .ireturn, 1, 0, 0, 0, 0)]]
/-- LostKeys.openBehind(I)I -/
def rx_m26 : rx_Md := (yX9_openBehind, cX9_openBehind, 2, (some .int), 2, 1, 0, 0, rx_t26)
def rx_t27 : List (List rx_E) := [
  [(0, .iload_n 1, 1, 0, 0, 0, 0), (1, .ifCond .lt 9, 3, 0, 0, 0, 0), (4, .iload_n 1, 1, 0, 0, 0, 0), (5, .bipush 60, 2, 0, 0, 0, 0), (7, .if_icmp .le 7, 3, 0, 0, 0, 0), (10, .iconst (-1), 1, 0, 0, 0, 0), (11, .goto 8, 3, 0, 0, 0, 0), (14, .aload_n 0, 1, 0, 0, 0, 0), (15, .iload_n 1, 1, 0, 0, 0, 0)],
  [(16, .invokevirtual 260, 3, 26, 2, 13, 0), (19, .ireturn, 1, 0, 0, 0, 0)]]
/-- LostKeys.opens(I)I -/
def rx_m27 : rx_Md := (yX9_opens, cX9_opens, 2, (some .int), 2, 1, 0, 0, rx_t27)
def rx_t28 : List (List rx_E) := [
  [(0, .aload_n 0, 1, 0, 0, 0, 0), (1, .bipush 8, 2, 0, 0, 0, 0), (3, .iload_n 1, 1, 0, 0, 0, 0), (4, .iload_n 2, 1, 0, 0, 0, 0), (5, .iconst 0, 1, 0, 0, 0, 0), (6, .invokevirtual 200, 3, 1, 5, 13, 0), (9, .ireturn, 1, 0, 0, 0, 0)]]
/-- LostKeys.pick(II)I -/
def rx_m28 : rx_Md := (yX9_pick, cX9_pick, 3, (some .int), 3, 1, 0, 0, rx_t28)
def rx_t29 : List (List rx_E) := [
  [(0, .iload_n 1, 1, 0, 0, 0, 0), (1, .ifCond .lt 20, 3, 0, 0, 0, 0), (4, .iload_n 1, 1, 0, 0, 0, 0), (5, .iconst 2, 1, 0, 0, 0, 0), (6, .if_icmp .ge 15, 3, 0, 0, 0, 0), (9, .aload_n 0, 1, 0, 0, 0, 0), (10, .getfield 62, 3, 9, 9, 4, 0), (13, .iload_n 1, 1, 0, 0, 0, 0), (14, .aaload, 1, 0, 0, 0, 0), (15, .getfield 318, 3, 2, 0, 2, 0)],
  [(18, .ifCond .ne 5, 3, 0, 0, 0, 0), (21, .iconst 0, 1, 0, 0, 0, 0), (22, .ireturn, 1, 0, 0, 0, 0), (23, .aload_n 0, 1, 0, 0, 0, 0), (24, .getfield 62, 3, 9, 9, 4, 0), (27, .iload_n 1, 1, 0, 0, 0, 0), (28, .aaload, 1, 0, 0, 0, 0), (29, .astore_n 2, 1, 0, 0, 0, 0), (30, .aload_n 0, 1, 0, 0, 0, 0), (31, .getfield 19, 3, 9, 1, 4, 0)],
  [(34, .aload_n 2, 1, 0, 0, 0, 0), (35, .getfield 322, 3, 2, 1, 4, 0), (38, .invokevirtual 323, 3, 122, 2, 12, 0), (41, .aload_n 0, 1, 0, 0, 0, 0), (42, .getfield 29, 3, 9, 3, 4, 0), (45, .aload_n 2, 1, 0, 0, 0, 0), (46, .getfield 325, 3, 2, 2, 4, 0)],
  [(49, .invokevirtual 263, 3, 81, 2, 9, 0), (52, .aload_n 0, 1, 0, 0, 0, 0), (53, .getfield 39, 3, 9, 5, 4, 0), (56, .aload_n 2, 1, 0, 0, 0, 0), (57, .getfield 326, 3, 2, 3, 4, 0), (60, .invokevirtual 327, 3, 69, 2, 8, 0), (63, .aload_n 0, 1, 0, 0, 0, 0)],
  [(64, .getfield 56, 3, 9, 8, 4, 0), (67, .invokevirtual 121, 3, 52, 1, 5, 0), (70, .iconst 1, 1, 0, 0, 0, 0), (71, .ireturn, 1, 0, 0, 0, 0)]]
/-- LostKeys.restore(I)Z -/
def rx_m29 : rx_Md := (yX9_restore, cX9_restore, 3, (some .boolean), 2, 1, 0, 0, rx_t29)
def rx_t30 : List (List rx_E) := [
  [(0, .aload_n 0, 1, 0, 0, 0, 0), (1, .getfield 39, 3, 9, 5, 4, 0), (4, .getfield 118, 3, 4, 0, 0, 0), (7, .ifCond .ne 5, 3, 0, 0, 0, 0), (10, .iconst (-1), 1, 0, 0, 0, 0), (11, .ireturn, 1, 0, 0, 0, 0), (12, .aload_n 0, 1, 0, 0, 0, 0), (13, .getfield 39, 3, 9, 5, 4, 0)],
  [(16, .aload_n 0, 1, 0, 0, 0, 0), (17, .getfield 19, 3, 9, 1, 4, 0), (20, .aload_n 0, 1, 0, 0, 0, 0), (21, .getfield 29, 3, 9, 3, 4, 0), (24, .invokevirtual 315, 3, 71, 3, 8, 0), (27, .istore_n 2, 1, 0, 0, 0, 0), (28, .iload_n 1, 1, 0, 0, 0, 0), (29, .iconst (-1), 1, 0, 0, 0, 0), (30, .if_icmp .ne 8, 3, 0, 0, 0, 0)],
  [(33, .iload_n 2, 1, 0, 0, 0, 0), (34, .invokestatic 234, 3, 274, 1, 0, 0), (37, .ireturn, 1, 0, 0, 0, 0), (38, .iload_n 1, 1, 0, 0, 0, 0), (39, .istore_n 3, 1, 0, 0, 0, 0), (40, .iconst 0, 1, 0, 0, 0, 0), (41, .istore 4, 2, 0, 0, 0, 0), (43, .iload 4, 2, 0, 0, 0, 0), (45, .aload_n 0, 1, 0, 0, 0, 0), (46, .getfield 19, 3, 9, 1, 4, 0)],
  [(49, .getfield 282, 3, 8, 5, 4, 0), (52, .iconst 3, 1, 0, 0, 0, 0), (53, .iaload, 1, 0, 0, 0, 0), (54, .if_icmp .ge 29, 3, 0, 0, 0, 0), (57, .iload_n 2, 1, 0, 0, 0, 0), (58, .iload 4, 2, 0, 0, 0, 0), (60, .ishr, 1, 0, 0, 0, 0), (61, .iconst 1, 1, 0, 0, 0, 0), (62, .iand, 1, 0, 0, 0, 0), (63, .iconst 1, 1, 0, 0, 0, 0)],
  [(64, .if_icmp .ne 13, 3, 0, 0, 0, 0), (67, .iload_n 3, 1, 0, 0, 0, 0), (68, .ifCond .ne 6, 3, 0, 0, 0, 0), (71, .iload 4, 2, 0, 0, 0, 0), (73, .ireturn, 1, 0, 0, 0, 0), (74, .iinc 3 (-1), 3, 0, 0, 0, 0), (77, .iinc 4 1, 3, 0, 0, 0, 0)],
  [(80, .goto (-37), 3, 0, 0, 0, 0), (83, .iconst (-1), 1, 0, 0, 0, 0), (84, .ireturn, 1, 0, 0, 0, 0)]]
/-- LostKeys.said(I)I -/
def rx_m30 : rx_Md := (yX9_said, cX9_said, 5, (some .int), 2, 1, 0, 0, rx_t30)
def rx_t31 : List (List rx_E) := [
  [(0, .aload_n 0, 1, 0, 0, 0, 0), (1, .getfield 43, 3, 9, 6, 4, 0), (4, .aload_n 0, 1, 0, 0, 0, 0), (5, .getfield 10, 3, 9, 0, 4, 0), (8, .aload_n 0, 1, 0, 0, 0, 0), (9, .getfield 19, 3, 9, 1, 4, 0), (12, .invokevirtual 313, 3, 74, 3, 8, 0), (15, .istore_n 1, 1, 0, 0, 0, 0)],
  [(16, .aload_n 0, 1, 0, 0, 0, 0), (17, .invokevirtual 108, 3, 9, 1, 13, 0), (20, .iload_n 1, 1, 0, 0, 0, 0), (21, .ifCond .ne 13, 3, 0, 0, 0, 0), (24, .iconst (-1), 1, 0, 0, 0, 0), (25, .aload_n 0, 1, 0, 0, 0, 0), (26, .getfield 10, 3, 9, 0, 4, 0), (29, .getfield 111, 3, 7, 6, 0, 0)],
  [(32, .isub, 1, 0, 0, 0, 0), (33, .ireturn, 1, 0, 0, 0, 0), (34, .aload_n 0, 1, 0, 0, 0, 0), (35, .getfield 39, 3, 9, 5, 4, 0), (38, .astore_n 2, 1, 0, 0, 0, 0), (39, .aload_n 0, 1, 0, 0, 0, 0), (40, .aload_n 0, 1, 0, 0, 0, 0), (41, .getfield 43, 3, 9, 6, 4, 0), (44, .putfield 39, 3, 9, 5, 4, 0), (47, .aload_n 0, 1, 0, 0, 0, 0)],
  [(48, .aload_n 2, 1, 0, 0, 0, 0), (49, .putfield 43, 3, 9, 6, 4, 0), (52, .aload_n 0, 1, 0, 0, 0, 0), (53, .getfield 39, 3, 9, 5, 4, 0), (56, .getfield 118, 3, 4, 0, 0, 0), (59, .ireturn, 1, 0, 0, 0, 0)]]
/-- LostKeys.sentence()I -/
def rx_m31 : rx_Md := (yX9_sentence, cX9_sentence, 3, (some .int), 1, 1, 0, 0, rx_t31)
def rx_t32 : List (List rx_E) := [
  [(0, .aload_n 0, 1, 0, 0, 0, 0), (1, .getfield 19, 3, 9, 1, 4, 0), (4, .iconst 3, 1, 0, 0, 0, 0), (5, .iload_n 1, 1, 0, 0, 0, 0), (6, .invokevirtual 127, 3, 125, 3, 12, 0), (9, .ifCond .ne 5, 3, 0, 0, 0, 0), (12, .iconst (-1), 1, 0, 0, 0, 0), (13, .ireturn, 1, 0, 0, 0, 0), (14, .aload_n 0, 1, 0, 0, 0, 0), (15, .getfield 76, 3, 9, 11, 4, 0)],
  [(18, .aload_n 0, 1, 0, 0, 0, 0), (19, .getfield 19, 3, 9, 1, 4, 0), (22, .aload_n 0, 1, 0, 0, 0, 0), (23, .getfield 29, 3, 9, 3, 4, 0), (26, .iload_n 1, 1, 0, 0, 0, 0), (27, .invokevirtual 292, 3, 102, 4, 10, 0), (30, .aload_n 0, 1, 0, 0, 0, 0), (31, .getfield 76, 3, 9, 11, 4, 0)],
  [(34, .getfield 296, 3, 6, 1, 0, 0), (37, .ireturn, 1, 0, 0, 0, 0)]]
/-- LostKeys.tag(I)I -/
def rx_m32 : rx_Md := (yX9_tag, cX9_tag, 2, (some .int), 2, 1, 0, 0, rx_t32)
def rx_t33 : List (List rx_E) := [
  [(0, .aload_n 0, 1, 0, 0, 0, 0), (1, .getfield 87, 3, 9, 15, 0, 0), (4, .ireturn, 1, 0, 0, 0, 0)]]
/-- LostKeys.tells()I -/
def rx_m33 : rx_Md := (yX9_tells, cX9_tells, 1, (some .int), 1, 1, 0, 0, rx_t33)
def rx_t34 : List (List rx_E) := [
  [(0, .iload_n 1, 1, 0, 0, 0, 0), (1, .ifCond .lt 15, 3, 0, 0, 0, 0), (4, .iload_n 1, 1, 0, 0, 0, 0), (5, .aload_n 0, 1, 0, 0, 0, 0), (6, .getfield 49, 3, 9, 7, 4, 0), (9, .getfield 310, 3, 0, 5, 4, 0), (12, .arraylength, 1, 0, 0, 0, 0), (13, .if_icmp .lt 7, 3, 0, 0, 0, 0)],
  [(16, .iconst (-1), 1, 0, 0, 0, 0), (17, .goto 12, 3, 0, 0, 0, 0), (20, .aload_n 0, 1, 0, 0, 0, 0), (21, .getfield 49, 3, 9, 7, 4, 0), (24, .getfield 310, 3, 0, 5, 4, 0), (27, .iload_n 1, 1, 0, 0, 0, 0), (28, .iaload, 1, 0, 0, 0, 0), (29, .ireturn, 1, 0, 0, 0, 0)]]
/-- LostKeys.told(I)I -/
def rx_m34 : rx_Md := (yX9_told, cX9_told, 2, (some .int), 2, 1, 0, 0, rx_t34)
def rx_t35 : List (List rx_E) := [
  [(0, .aload_n 0, 1, 0, 0, 0, 0), (1, .getfield 23, 3, 9, 2, 4, 0), (4, .aload_n 0, 1, 0, 0, 0, 0), (5, .getfield 10, 3, 9, 0, 4, 0), (8, .invokevirtual 104, 3, 130, 2, 12, 0), (11, .istore_n 1, 1, 0, 0, 0, 0), (12, .aload_n 0, 1, 0, 0, 0, 0), (13, .invokevirtual 108, 3, 9, 1, 13, 0)],
  [(16, .iload_n 1, 1, 0, 0, 0, 0), (17, .iconst (-1), 1, 0, 0, 0, 0), (18, .if_icmp .ne 13, 3, 0, 0, 0, 0), (21, .iconst (-1), 1, 0, 0, 0, 0), (22, .aload_n 0, 1, 0, 0, 0, 0), (23, .getfield 10, 3, 9, 0, 4, 0), (26, .getfield 111, 3, 7, 6, 0, 0), (29, .isub, 1, 0, 0, 0, 0), (30, .ireturn, 1, 0, 0, 0, 0), (31, .aload_n 0, 1, 0, 0, 0, 0)],
  [(32, .getfield 19, 3, 9, 1, 4, 0), (35, .astore_n 2, 1, 0, 0, 0, 0), (36, .aload_n 0, 1, 0, 0, 0, 0), (37, .aload_n 0, 1, 0, 0, 0, 0), (38, .getfield 23, 3, 9, 2, 4, 0), (41, .putfield 19, 3, 9, 1, 4, 0), (44, .aload_n 0, 1, 0, 0, 0, 0), (45, .aload_n 2, 1, 0, 0, 0, 0), (46, .putfield 23, 3, 9, 2, 4, 0)],
  [(49, .aload_n 0, 1, 0, 0, 0, 0), (50, .getfield 29, 3, 9, 3, 4, 0), (53, .aload_n 0, 1, 0, 0, 0, 0), (54, .getfield 19, 3, 9, 1, 4, 0), (57, .invokevirtual 114, 3, 80, 2, 9, 0), (60, .aload_n 0, 1, 0, 0, 0, 0), (61, .getfield 39, 3, 9, 5, 4, 0)],
  [(64, .iconst 0, 1, 0, 0, 0, 0), (65, .putfield 118, 3, 4, 0, 0, 0), (68, .aload_n 0, 1, 0, 0, 0, 0), (69, .getfield 56, 3, 9, 8, 4, 0), (72, .invokevirtual 121, 3, 52, 1, 5, 0), (75, .iload_n 1, 1, 0, 0, 0, 0), (76, .ireturn, 1, 0, 0, 0, 0)]]
/-- LostKeys.town()I -/
def rx_m35 : rx_Md := (yX9_town, cX9_town, 3, (some .int), 1, 1, 0, 0, rx_t35)
def rx_t36 : List (List rx_E) := [
  [(0, .aload_n 0, 1, 0, 0, 0, 0), (1, .bipush 9, 2, 0, 0, 0, 0), (3, .iload_n 1, 1, 0, 0, 0, 0), (4, .iload_n 2, 1, 0, 0, 0, 0), (5, .iload_n 3, 1, 0, 0, 0, 0), (6, .invokevirtual 200, 3, 1, 5, 13, 0), (9, .ireturn, 1, 0, 0, 0, 0)]]
/-- LostKeys.tries(III)I -/
def rx_m36 : rx_Md := (yX9_tries, cX9_tries, 4, (some .int), 4, 1, 0, 0, rx_t36)
def rx_t37 : List (List rx_E) := [
  [(0, .iload_n 1, 1, 0, 0, 0, 0), (1, .lookupswitch 37 #[(0, 27), (1, 32)], 27, 0, 0, 0, 0)],
  [(28, .aload_n 0, 1, 0, 0, 0, 0), (29, .getfield 90, 3, 9, 16, 0, 0)],
  [(32, .ireturn, 1, 0, 0, 0, 0), (33, .aload_n 0, 1, 0, 0, 0, 0), (34, .getfield 93, 3, 9, 17, 0, 0), (37, .ireturn, 1, 0, 0, 0, 0), (38, .iconst (-1), 1, 0, 0, 0, 0), (39, .ireturn, 1, 0, 0, 0, 0)]]
/-- LostKeys.twin(I)I -/
def rx_m37 : rx_Md := (yX9_twin, cX9_twin, 2, (some .int), 2, 1, 0, 0, rx_t37)
def rx_t38 : List (List rx_E) := [
  [(0, .iconst (-1), 1, 0, 0, 0, 0), (1, .istore_n 1, 1, 0, 0, 0, 0), (2, .iconst 0, 1, 0, 0, 0, 0), (3, .istore_n 2, 1, 0, 0, 0, 0), (4, .iload_n 2, 1, 0, 0, 0, 0), (5, .aload_n 0, 1, 0, 0, 0, 0), (6, .getfield 19, 3, 9, 1, 4, 0), (9, .getfield 282, 3, 8, 5, 4, 0), (12, .iconst 3, 1, 0, 0, 0, 0), (13, .iaload, 1, 0, 0, 0, 0), (14, .if_icmp .ge 80, 3, 0, 0, 0, 0)],
  [(17, .iload_n 2, 1, 0, 0, 0, 0), (18, .iconst 1, 1, 0, 0, 0, 0), (19, .iadd, 1, 0, 0, 0, 0), (20, .istore_n 3, 1, 0, 0, 0, 0), (21, .iload_n 3, 1, 0, 0, 0, 0), (22, .aload_n 0, 1, 0, 0, 0, 0), (23, .getfield 19, 3, 9, 1, 4, 0), (26, .getfield 282, 3, 8, 5, 4, 0), (29, .iconst 3, 1, 0, 0, 0, 0), (30, .iaload, 1, 0, 0, 0, 0), (31, .if_icmp .ge 57, 3, 0, 0, 0, 0)],
  [(34, .aload_n 0, 1, 0, 0, 0, 0), (35, .getfield 29, 3, 9, 3, 4, 0), (38, .getfield 165, 3, 5, 9, 4, 0), (41, .iload_n 2, 1, 0, 0, 0, 0), (42, .iaload, 1, 0, 0, 0, 0), (43, .aload_n 0, 1, 0, 0, 0, 0), (44, .getfield 29, 3, 9, 3, 4, 0), (47, .getfield 165, 3, 5, 9, 4, 0)],
  [(50, .iload_n 3, 1, 0, 0, 0, 0), (51, .iaload, 1, 0, 0, 0, 0), (52, .ixor, 1, 0, 0, 0, 0), (53, .invokestatic 234, 3, 274, 1, 0, 0), (56, .istore 4, 2, 0, 0, 0, 0), (58, .iload_n 1, 1, 0, 0, 0, 0), (59, .iconst (-1), 1, 0, 0, 0, 0), (60, .if_icmp .eq 9, 3, 0, 0, 0, 0), (63, .iload 4, 2, 0, 0, 0, 0)],
  [(65, .iload_n 1, 1, 0, 0, 0, 0), (66, .if_icmp .ge 16, 3, 0, 0, 0, 0), (69, .iload 4, 2, 0, 0, 0, 0), (71, .istore_n 1, 1, 0, 0, 0, 0), (72, .aload_n 0, 1, 0, 0, 0, 0), (73, .iload_n 2, 1, 0, 0, 0, 0), (74, .putfield 90, 3, 9, 16, 0, 0), (77, .aload_n 0, 1, 0, 0, 0, 0), (78, .iload_n 3, 1, 0, 0, 0, 0), (79, .putfield 93, 3, 9, 17, 0, 0)],
  [(82, .iinc 3 1, 3, 0, 0, 0, 0), (85, .goto (-64), 3, 0, 0, 0, 0), (88, .iinc 2 1, 3, 0, 0, 0, 0), (91, .goto (-87), 3, 0, 0, 0, 0), (94, .iload_n 1, 1, 0, 0, 0, 0), (95, .ireturn, 1, 0, 0, 0, 0)]]
/-- LostKeys.twins()I -/
def rx_m38 : rx_Md := (yX9_twins, cX9_twins, 5, (some .int), 1, 1, 0, 0, rx_t38)
def rx_t39 : List (List rx_E) := [
  [(0, .aload_n 0, 1, 0, 0, 0, 0), (1, .getfield 56, 3, 9, 8, 4, 0), (4, .aload_n 0, 1, 0, 0, 0, 0), (5, .getfield 29, 3, 9, 3, 4, 0), (8, .invokevirtual 223, 3, 54, 2, 5, 0), (11, .ifCond .eq 13, 3, 0, 0, 0, 0), (14, .aload_n 0, 1, 0, 0, 0, 0), (15, .getfield 56, 3, 9, 8, 4, 0)],
  [(18, .getfield 227, 3, 1, 1, 0, 0), (21, .goto 4, 3, 0, 0, 0, 0), (24, .iconst (-1), 1, 0, 0, 0, 0), (25, .ireturn, 1, 0, 0, 0, 0)]]
/-- LostKeys.undo()I -/
def rx_m39 : rx_Md := (yX9_undo, cX9_undo, 1, (some .int), 1, 1, 0, 0, rx_t39)
def rx_t40 : List (List rx_E) := [
  [(0, .aload_n 0, 1, 0, 0, 0, 0), (1, .bipush 10, 2, 0, 0, 0, 0), (3, .iload_n 1, 1, 0, 0, 0, 0), (4, .iload_n 2, 1, 0, 0, 0, 0), (5, .iload_n 3, 1, 0, 0, 0, 0), (6, .invokevirtual 200, 3, 1, 5, 13, 0), (9, .ireturn, 1, 0, 0, 0, 0)]]
/-- LostKeys.walk(III)I -/
def rx_m40 : rx_Md := (yX9_walk, cX9_walk, 4, (some .int), 4, 1, 0, 0, rx_t40)
def rx_t41 : List (List rx_E) := [
  [(0, .aload_n 0, 1, 0, 0, 0, 0), (1, .getfield 19, 3, 9, 1, 4, 0), (4, .iconst 0, 1, 0, 0, 0, 0), (5, .iload_n 1, 1, 0, 0, 0, 0), (6, .invokevirtual 127, 3, 125, 3, 12, 0), (9, .ifCond .eq 25, 3, 0, 0, 0, 0), (12, .aload_n 0, 1, 0, 0, 0, 0), (13, .getfield 19, 3, 9, 1, 4, 0)],
  [(16, .iconst 0, 1, 0, 0, 0, 0), (17, .iload_n 2, 1, 0, 0, 0, 0), (18, .invokevirtual 127, 3, 125, 3, 12, 0), (21, .ifCond .eq 13, 3, 0, 0, 0, 0), (24, .iload_n 3, 1, 0, 0, 0, 0), (25, .ifCond .lt 9, 3, 0, 0, 0, 0), (28, .iload_n 3, 1, 0, 0, 0, 0), (29, .bipush 60, 2, 0, 0, 0, 0), (31, .if_icmp .le 5, 3, 0, 0, 0, 0)],
  [(34, .iconst (-1), 1, 0, 0, 0, 0), (35, .ireturn, 1, 0, 0, 0, 0), (36, .aload_n 0, 1, 0, 0, 0, 0), (37, .getfield 69, 3, 9, 10, 4, 0), (40, .aload_n 0, 1, 0, 0, 0, 0), (41, .getfield 19, 3, 9, 1, 4, 0), (44, .aload_n 0, 1, 0, 0, 0, 0), (45, .iload_n 3, 1, 0, 0, 0, 0), (46, .invokevirtual 260, 3, 26, 2, 13, 0)],
  [(49, .iload_n 1, 1, 0, 0, 0, 0), (50, .iload_n 2, 1, 0, 0, 0, 0), (51, .invokevirtual 266, 3, 61, 5, 7, 0), (54, .ireturn, 1, 0, 0, 0, 0)]]
/-- LostKeys.way(III)I -/
def rx_m41 : rx_Md := (yX9_way, cX9_way, 4, (some .int), 4, 1, 0, 0, rx_t41)
def rx_t42 : List (List rx_E) := [
  [(0, .iload_n 1, 1, 0, 0, 0, 0), (1, .ifCond .lt 14, 3, 0, 0, 0, 0), (4, .iload_n 1, 1, 0, 0, 0, 0), (5, .aload_n 0, 1, 0, 0, 0, 0), (6, .getfield 69, 3, 9, 10, 4, 0), (9, .getfield 270, 3, 3, 5, 0, 0), (12, .if_icmp .lt 7, 3, 0, 0, 0, 0), (15, .iconst (-1), 1, 0, 0, 0, 0)],
  [(16, .goto 12, 3, 0, 0, 0, 0), (19, .aload_n 0, 1, 0, 0, 0, 0), (20, .getfield 69, 3, 9, 10, 4, 0), (23, .getfield 273, 3, 3, 4, 4, 0), (26, .iload_n 1, 1, 0, 0, 0, 0), (27, .iaload, 1, 0, 0, 0, 0), (28, .ireturn, 1, 0, 0, 0, 0)]]
/-- LostKeys.wayAt(I)I -/
def rx_m42 : rx_Md := (yX9_wayAt, cX9_wayAt, 2, (some .int), 2, 1, 0, 0, rx_t42)
def rx_t43 : List (List rx_E) := [
  [(0, .aload_n 0, 1, 0, 0, 0, 0), (1, .invokespecial 3, 3, 0, 1, 1, 0), (4, .aload_n 0, 1, 0, 0, 0, 0), (5, .bipush 40, 2, 0, 0, 0, 0), (7, .newarray .int, 2, 0, 0, 0, 0), (9, .putfield 9, 3, 0, 1, 4, 0), (12, .aload_n 0, 1, 0, 0, 0, 0), (13, .bipush 40, 2, 0, 0, 0, 0), (15, .newarray .int, 2, 0, 0, 0, 0)],
  [(17, .putfield 15, 3, 0, 2, 4, 0), (20, .aload_n 0, 1, 0, 0, 0, 0), (21, .bipush 40, 2, 0, 0, 0, 0), (23, .newarray .int, 2, 0, 0, 0, 0), (25, .putfield 18, 3, 0, 3, 4, 0), (28, .aload_n 0, 1, 0, 0, 0, 0), (29, .bipush 40, 2, 0, 0, 0, 0), (31, .newarray .int, 2, 0, 0, 0, 0)],
  [(33, .putfield 21, 3, 0, 4, 4, 0), (36, .aload_n 0, 1, 0, 0, 0, 0), (37, .iconst 4, 1, 0, 0, 0, 0), (38, .newarray .int, 2, 0, 0, 0, 0), (40, .dup, 1, 0, 0, 0, 0), (41, .iconst 0, 1, 0, 0, 0, 0), (42, .iconst (-1), 1, 0, 0, 0, 0), (43, .iastore, 1, 0, 0, 0, 0), (44, .dup, 1, 0, 0, 0, 0), (45, .iconst 1, 1, 0, 0, 0, 0), (46, .iconst (-1), 1, 0, 0, 0, 0), (47, .iastore, 1, 0, 0, 0, 0)],
  [(48, .dup, 1, 0, 0, 0, 0), (49, .iconst 2, 1, 0, 0, 0, 0), (50, .iconst (-1), 1, 0, 0, 0, 0), (51, .iastore, 1, 0, 0, 0, 0), (52, .dup, 1, 0, 0, 0, 0), (53, .iconst 3, 1, 0, 0, 0, 0), (54, .iconst (-1), 1, 0, 0, 0, 0), (55, .iastore, 1, 0, 0, 0, 0), (56, .putfield 24, 3, 0, 5, 4, 0), (59, .return_, 1, 0, 0, 0, 0)]]
/-- LostKeys$Book.<init>()V -/
def rx_m43 : rx_Md := (yX0_init, cX0_init, 1, none, 1, 2, 5, 164, rx_t43)
def rx_t44 : List (List rx_E) := [
  [(0, .iconst 0, 1, 0, 0, 0, 0), (1, .istore_n 3, 1, 0, 0, 0, 0), (2, .iconst 0, 1, 0, 0, 0, 0), (3, .istore 4, 2, 0, 0, 0, 0), (5, .iload 4, 2, 0, 0, 0, 0), (7, .aload_n 0, 1, 0, 0, 0, 0), (8, .getfield 27, 3, 0, 0, 0, 0), (11, .if_icmp .ge 25, 3, 0, 0, 0, 0), (14, .aload_n 0, 1, 0, 0, 0, 0), (15, .aload_n 1, 1, 0, 0, 0, 0)],
  [(16, .aload_n 2, 1, 0, 0, 0, 0), (17, .iload 4, 2, 0, 0, 0, 0), (19, .invokevirtual 92, 3, 45, 4, 4, 0), (22, .istore_n 3, 1, 0, 0, 0, 0), (23, .iload_n 3, 1, 0, 0, 0, 0), (24, .ifCond .eq 6, 3, 0, 0, 0, 0), (27, .goto 9, 3, 0, 0, 0, 0), (30, .iinc 4 1, 3, 0, 0, 0, 0)],
  [(33, .goto (-28), 3, 0, 0, 0, 0), (36, .aload_n 0, 1, 0, 0, 0, 0), (37, .getfield 24, 3, 0, 5, 4, 0), (40, .iconst 0, 1, 0, 0, 0, 0), (41, .iload_n 3, 1, 0, 0, 0, 0), (42, .iastore, 1, 0, 0, 0, 0), (43, .aload_n 0, 1, 0, 0, 0, 0), (44, .getfield 24, 3, 0, 5, 4, 0), (47, .iconst 1, 1, 0, 0, 0, 0)],
  [(48, .iload 4, 2, 0, 0, 0, 0), (50, .iastore, 1, 0, 0, 0, 0), (51, .aload_n 0, 1, 0, 0, 0, 0), (52, .getfield 24, 3, 0, 5, 4, 0), (55, .iconst 2, 1, 0, 0, 0, 0), (56, .aload_n 2, 1, 0, 0, 0, 0), (57, .getfield 96, 3, 5, 0, 0, 0), (60, .iastore, 1, 0, 0, 0, 0), (61, .aload_n 0, 1, 0, 0, 0, 0), (62, .getfield 24, 3, 0, 5, 4, 0)],
  [(65, .iconst 3, 1, 0, 0, 0, 0), (66, .aload_n 2, 1, 0, 0, 0, 0), (67, .getfield 101, 3, 5, 1, 0, 0), (70, .iastore, 1, 0, 0, 0, 0), (71, .iload_n 3, 1, 0, 0, 0, 0), (72, .ifCond .ne 7, 3, 0, 0, 0, 0), (75, .iconst (-1), 1, 0, 0, 0, 0), (76, .goto 5, 3, 0, 0, 0, 0), (79, .iload 4, 2, 0, 0, 0, 0)],
  [(81, .ireturn, 1, 0, 0, 0, 0)]]
/-- LostKeys$Book.judge(LLostKeys$Town;LLostKeys$State;)I -/
def rx_m44 : rx_Md := (yX0_judge, cX0_judge, 5, (some .int), 3, 1, 0, 0, rx_t44)
def rx_t45 : List (List rx_E) := [
  [(0, .aload_n 0, 1, 0, 0, 0, 0), (1, .getfield 18, 3, 0, 3, 4, 0), (4, .iload_n 3, 1, 0, 0, 0, 0), (5, .iaload, 1, 0, 0, 0, 0), (6, .istore 4, 2, 0, 0, 0, 0), (8, .aload_n 0, 1, 0, 0, 0, 0), (9, .getfield 21, 3, 0, 4, 4, 0), (12, .iload_n 3, 1, 0, 0, 0, 0), (13, .iaload, 1, 0, 0, 0, 0), (14, .istore 5, 2, 0, 0, 0, 0)],
  [(16, .aload_n 0, 1, 0, 0, 0, 0), (17, .getfield 9, 3, 0, 1, 4, 0), (20, .iload_n 3, 1, 0, 0, 0, 0), (21, .iaload, 1, 0, 0, 0, 0), (22, .bipush 11, 2, 0, 0, 0, 0), (24, .if_icmp .ne 25, 3, 0, 0, 0, 0), (27, .iload 4, 2, 0, 0, 0, 0), (29, .aload_n 2, 1, 0, 0, 0, 0), (30, .invokevirtual 104, 3, 82, 1, 9, 0)],
  [(33, .if_icmp .le 6, 3, 0, 0, 0, 0), (36, .bipush 41, 2, 0, 0, 0, 0), (38, .ireturn, 1, 0, 0, 0, 0), (39, .aload_n 2, 1, 0, 0, 0, 0), (40, .aload_n 1, 1, 0, 0, 0, 0), (41, .iload 4, 2, 0, 0, 0, 0), (43, .invokevirtual 108, 3, 94, 3, 9, 0), (46, .pop, 1, 0, 0, 0, 0), (47, .iconst 0, 1, 0, 0, 0, 0)],
  [(48, .ireturn, 1, 0, 0, 0, 0), (49, .aload_n 2, 1, 0, 0, 0, 0), (50, .aload_n 1, 1, 0, 0, 0, 0), (51, .aload_n 0, 1, 0, 0, 0, 0), (52, .getfield 9, 3, 0, 1, 4, 0), (55, .iload_n 3, 1, 0, 0, 0, 0), (56, .iaload, 1, 0, 0, 0, 0), (57, .aload_n 0, 1, 0, 0, 0, 0), (58, .getfield 15, 3, 0, 2, 4, 0), (61, .iload_n 3, 1, 0, 0, 0, 0), (62, .iaload, 1, 0, 0, 0, 0), (63, .iload 4, 2, 0, 0, 0, 0)],
  [(65, .iload 5, 2, 0, 0, 0, 0), (67, .invokevirtual 112, 3, 96, 6, 9, 0), (70, .istore 6, 2, 0, 0, 0, 0), (72, .iload 6, 2, 0, 0, 0, 0), (74, .iconst (-1), 1, 0, 0, 0, 0), (75, .if_icmp .ne 6, 3, 0, 0, 0, 0), (78, .bipush 39, 2, 0, 0, 0, 0)],
  [(80, .ireturn, 1, 0, 0, 0, 0), (81, .iload 6, 2, 0, 0, 0, 0), (83, .ifCond .le 19, 3, 0, 0, 0, 0), (86, .bipush 10, 2, 0, 0, 0, 0), (88, .aload_n 0, 1, 0, 0, 0, 0), (89, .getfield 9, 3, 0, 1, 4, 0), (92, .iload_n 3, 1, 0, 0, 0, 0), (93, .iaload, 1, 0, 0, 0, 0), (94, .bipush 7, 2, 0, 0, 0, 0)],
  [(96, .isub, 1, 0, 0, 0, 0), (97, .imul, 1, 0, 0, 0, 0), (98, .iload 6, 2, 0, 0, 0, 0), (100, .iadd, 1, 0, 0, 0, 0), (101, .ireturn, 1, 0, 0, 0, 0), (102, .aload_n 2, 1, 0, 0, 0, 0), (103, .aload_n 1, 1, 0, 0, 0, 0), (104, .aload_n 0, 1, 0, 0, 0, 0), (105, .getfield 9, 3, 0, 1, 4, 0), (108, .iload_n 3, 1, 0, 0, 0, 0), (109, .iaload, 1, 0, 0, 0, 0), (110, .aload_n 0, 1, 0, 0, 0, 0), (111, .getfield 15, 3, 0, 2, 4, 0)],
  [(114, .iload_n 3, 1, 0, 0, 0, 0), (115, .iaload, 1, 0, 0, 0, 0), (116, .iload 4, 2, 0, 0, 0, 0), (118, .iload 5, 2, 0, 0, 0, 0), (120, .invokevirtual 116, 3, 95, 6, 9, 0), (123, .iconst 0, 1, 0, 0, 0, 0), (124, .ireturn, 1, 0, 0, 0, 0)]]
/-- LostKeys$Book.live(LLostKeys$Town;LLostKeys$State;I)I -/
def rx_m45 : rx_Md := (yX0_live, cX0_live, 7, (some .int), 4, 1, 0, 0, rx_t45)
def rx_t46 : List (List rx_E) := [
  [(0, .aload_n 0, 1, 0, 0, 0, 0), (1, .getfield 21, 3, 0, 4, 4, 0), (4, .aload_n 0, 1, 0, 0, 0, 0), (5, .getfield 27, 3, 0, 0, 0, 0), (8, .iload_n 1, 1, 0, 0, 0, 0), (9, .iastore, 1, 0, 0, 0, 0), (10, .iconst 1, 1, 0, 0, 0, 0), (11, .ireturn, 1, 0, 0, 0, 0)]]
/-- LostKeys$Book.putSecond(I)Z -/
def rx_m46 : rx_Md := (yX0_putSecond, cX0_putSecond, 2, (some .boolean), 2, 1, 0, 0, rx_t46)
def rx_t47 : List (List rx_E) := [
  [(0, .aload_n 0, 1, 0, 0, 0, 0), (1, .iconst 0, 1, 0, 0, 0, 0), (2, .putfield 27, 3, 0, 0, 0, 0), (5, .aload_n 1, 1, 0, 0, 0, 0), (6, .sipush 400, 3, 0, 0, 0, 0), (9, .invokevirtual 31, 3, 106, 2, 11, 0), (12, .iconst 0, 1, 0, 0, 0, 0), (13, .istore_n 3, 1, 0, 0, 0, 0), (14, .iload_n 3, 1, 0, 0, 0, 0), (15, .bipush 40, 2, 0, 0, 0, 0)],
  [(17, .if_icmp .gt 48, 3, 0, 0, 0, 0), (20, .aload_n 1, 1, 0, 0, 0, 0), (21, .invokevirtual 37, 3, 104, 1, 11, 0), (24, .ifCond .eq 5, 3, 0, 0, 0, 0), (27, .iconst 1, 1, 0, 0, 0, 0), (28, .ireturn, 1, 0, 0, 0, 0), (29, .aload_n 0, 1, 0, 0, 0, 0), (30, .aload_n 1, 1, 0, 0, 0, 0), (31, .aload_n 2, 1, 0, 0, 0, 0)],
  [(32, .invokevirtual 41, 3, 49, 3, 4, 0), (35, .ifCond .eq 12, 3, 0, 0, 0, 0), (38, .aload_n 1, 1, 0, 0, 0, 0), (39, .bipush 59, 2, 0, 0, 0, 0), (41, .invokevirtual 45, 3, 117, 2, 11, 0), (44, .ifCond .ne 5, 3, 0, 0, 0, 0), (47, .iconst 0, 1, 0, 0, 0, 0)],
  [(48, .ireturn, 1, 0, 0, 0, 0), (49, .aload_n 0, 1, 0, 0, 0, 0), (50, .dup, 1, 0, 0, 0, 0), (51, .getfield 27, 3, 0, 0, 0, 0), (54, .iconst 1, 1, 0, 0, 0, 0), (55, .iadd, 1, 0, 0, 0, 0), (56, .putfield 27, 3, 0, 0, 0, 0), (59, .iinc 3 1, 3, 0, 0, 0, 0), (62, .goto (-48), 3, 0, 0, 0, 0)],
  [(65, .iconst 0, 1, 0, 0, 0, 0), (66, .ireturn, 1, 0, 0, 0, 0)]]
/-- LostKeys$Book.read(LLostKeys$Tape;LLostKeys$Town;)Z -/
def rx_m47 : rx_Md := (yX0_read, cX0_read, 4, (some .boolean), 3, 1, 0, 0, rx_t47)
def rx_t48 : List (List rx_E) := [
  [(0, .aload_n 1, 1, 0, 0, 0, 0), (1, .getfield 49, 3, 7, 8, 0, 0), (4, .istore_n 3, 1, 0, 0, 0, 0), (5, .iload_n 3, 1, 0, 0, 0, 0), (6, .bipush 7, 2, 0, 0, 0, 0), (8, .if_icmp .lt 9, 3, 0, 0, 0, 0), (11, .iload_n 3, 1, 0, 0, 0, 0), (12, .bipush 10, 2, 0, 0, 0, 0), (14, .if_icmp .le 9, 3, 0, 0, 0, 0)],
  [(17, .aload_n 1, 1, 0, 0, 0, 0), (18, .iconst 1, 1, 0, 0, 0, 0), (19, .invokevirtual 55, 3, 113, 2, 11, 0), (22, .ireturn, 1, 0, 0, 0, 0), (23, .aload_n 1, 1, 0, 0, 0, 0), (24, .invokevirtual 68, 3, 108, 1, 11, 0), (27, .iload_n 3, 1, 0, 0, 0, 0), (28, .bipush 10, 2, 0, 0, 0, 0), (30, .if_icmp .ne 39, 3, 0, 0, 0, 0)],
  [(33, .aload_n 0, 1, 0, 0, 0, 0), (34, .aload_n 1, 1, 0, 0, 0, 0), (35, .iconst 0, 1, 0, 0, 0, 0), (36, .iconst 5, 1, 0, 0, 0, 0), (37, .invokevirtual 71, 3, 50, 4, 4, 0), (40, .ifCond .eq 27, 3, 0, 0, 0, 0), (43, .aload_n 1, 1, 0, 0, 0, 0), (44, .iconst 0, 1, 0, 0, 0, 0), (45, .iconst 5, 1, 0, 0, 0, 0), (46, .invokevirtual 78, 3, 116, 3, 11, 0)],
  [(49, .ifCond .eq 18, 3, 0, 0, 0, 0), (52, .aload_n 0, 1, 0, 0, 0, 0), (53, .aload_n 1, 1, 0, 0, 0, 0), (54, .getfield 82, 3, 7, 11, 0, 0), (57, .invokevirtual 85, 3, 46, 2, 4, 0), (60, .ifCond .eq 7, 3, 0, 0, 0, 0), (63, .iconst 1, 1, 0, 0, 0, 0)],
  [(64, .goto 4, 3, 0, 0, 0, 0), (67, .iconst 0, 1, 0, 0, 0, 0), (68, .ireturn, 1, 0, 0, 0, 0), (69, .aload_n 1, 1, 0, 0, 0, 0), (70, .aload_n 2, 1, 0, 0, 0, 0), (71, .iconst 3, 1, 0, 0, 0, 0), (72, .iconst (-1), 1, 0, 0, 0, 0), (73, .invokevirtual 88, 3, 118, 4, 11, 0), (76, .ifCond .ne 5, 3, 0, 0, 0, 0), (79, .iconst 0, 1, 0, 0, 0, 0)],
  [(80, .ireturn, 1, 0, 0, 0, 0), (81, .aload_n 0, 1, 0, 0, 0, 0), (82, .getfield 18, 3, 0, 3, 4, 0), (85, .aload_n 0, 1, 0, 0, 0, 0), (86, .getfield 27, 3, 0, 0, 0, 0), (89, .aload_n 1, 1, 0, 0, 0, 0), (90, .getfield 82, 3, 7, 11, 0, 0), (93, .iastore, 1, 0, 0, 0, 0), (94, .iload_n 3, 1, 0, 0, 0, 0), (95, .bipush 9, 2, 0, 0, 0, 0)],
  [(97, .if_icmp .ne 24, 3, 0, 0, 0, 0), (100, .aload_n 1, 1, 0, 0, 0, 0), (101, .aload_n 2, 1, 0, 0, 0, 0), (102, .iconst 1, 1, 0, 0, 0, 0), (103, .iconst (-1), 1, 0, 0, 0, 0), (104, .invokevirtual 88, 3, 118, 4, 11, 0), (107, .ifCond .eq 18, 3, 0, 0, 0, 0), (110, .aload_n 0, 1, 0, 0, 0, 0), (111, .aload_n 1, 1, 0, 0, 0, 0)],
  [(112, .getfield 82, 3, 7, 11, 0, 0), (115, .invokevirtual 85, 3, 46, 2, 4, 0), (118, .ifCond .eq 7, 3, 0, 0, 0, 0), (121, .iconst 1, 1, 0, 0, 0, 0), (122, .goto 4, 3, 0, 0, 0, 0), (125, .iconst 0, 1, 0, 0, 0, 0), (126, .ireturn, 1, 0, 0, 0, 0)]]
/-- LostKeys$Book.readAct(LLostKeys$Tape;LLostKeys$Town;)Z -/
def rx_m48 : rx_Md := (yX0_readAct, cX0_readAct, 4, (some .boolean), 3, 1, 0, 0, rx_t48)
def rx_t49 : List (List rx_E) := [
  [(0, .aload_n 1, 1, 0, 0, 0, 0), (1, .getfield 49, 3, 7, 8, 0, 0), (4, .bipush 11, 2, 0, 0, 0, 0), (6, .if_icmp .ne 7, 3, 0, 0, 0, 0), (9, .iconst 1, 1, 0, 0, 0, 0), (10, .goto 4, 3, 0, 0, 0, 0), (13, .iconst 0, 1, 0, 0, 0, 0), (14, .istore_n 3, 1, 0, 0, 0, 0), (15, .iload_n 3, 1, 0, 0, 0, 0)],
  [(16, .ifCond .ne 16, 3, 0, 0, 0, 0), (19, .aload_n 1, 1, 0, 0, 0, 0), (20, .invokevirtual 52, 3, 105, 1, 11, 0), (23, .ifCond .ne 9, 3, 0, 0, 0, 0), (26, .aload_n 1, 1, 0, 0, 0, 0), (27, .iconst 1, 1, 0, 0, 0, 0), (28, .invokevirtual 55, 3, 113, 2, 11, 0), (31, .ireturn, 1, 0, 0, 0, 0)],
  [(32, .aload_n 2, 1, 0, 0, 0, 0), (33, .iconst 2, 1, 0, 0, 0, 0), (34, .aload_n 1, 1, 0, 0, 0, 0), (35, .getfield 58, 3, 7, 7, 3, 0), (38, .invokevirtual 62, 3, 129, 3, 12, 0), (41, .istore 4, 2, 0, 0, 0, 0), (43, .iload_n 3, 1, 0, 0, 0, 0), (44, .ifCond .ne 15, 3, 0, 0, 0, 0), (47, .iload 4, 2, 0, 0, 0, 0)],
  [(49, .iconst (-1), 1, 0, 0, 0, 0), (50, .if_icmp .ne 9, 3, 0, 0, 0, 0), (53, .aload_n 1, 1, 0, 0, 0, 0), (54, .iconst 3, 1, 0, 0, 0, 0), (55, .invokevirtual 55, 3, 113, 2, 11, 0), (58, .ireturn, 1, 0, 0, 0, 0), (59, .aload_n 0, 1, 0, 0, 0, 0), (60, .getfield 27, 3, 0, 0, 0, 0), (63, .bipush 40, 2, 0, 0, 0, 0)],
  [(65, .if_icmp .lt 9, 3, 0, 0, 0, 0), (68, .aload_n 1, 1, 0, 0, 0, 0), (69, .iconst 4, 1, 0, 0, 0, 0), (70, .invokevirtual 55, 3, 113, 2, 11, 0), (73, .ireturn, 1, 0, 0, 0, 0), (74, .aload_n 1, 1, 0, 0, 0, 0), (75, .invokevirtual 68, 3, 108, 1, 11, 0), (78, .aload_n 0, 1, 0, 0, 0, 0), (79, .getfield 15, 3, 0, 2, 4, 0)],
  [(82, .aload_n 0, 1, 0, 0, 0, 0), (83, .getfield 27, 3, 0, 0, 0, 0), (86, .iload 4, 2, 0, 0, 0, 0), (88, .iastore, 1, 0, 0, 0, 0), (89, .aload_n 0, 1, 0, 0, 0, 0), (90, .getfield 9, 3, 0, 1, 4, 0), (93, .aload_n 0, 1, 0, 0, 0, 0), (94, .getfield 27, 3, 0, 0, 0, 0)],
  [(97, .iload_n 3, 1, 0, 0, 0, 0), (98, .ifCond .eq 8, 3, 0, 0, 0, 0), (101, .bipush 11, 2, 0, 0, 0, 0), (103, .goto 7, 3, 0, 0, 0, 0), (106, .aload_n 1, 1, 0, 0, 0, 0), (107, .getfield 49, 3, 7, 8, 0, 0), (110, .iastore, 1, 0, 0, 0, 0), (111, .iload_n 3, 1, 0, 0, 0, 0)],
  [(112, .ifCond .eq 14, 3, 0, 0, 0, 0), (115, .aload_n 0, 1, 0, 0, 0, 0), (116, .aload_n 1, 1, 0, 0, 0, 0), (117, .iconst 1, 1, 0, 0, 0, 0), (118, .bipush 60, 2, 0, 0, 0, 0), (120, .invokevirtual 71, 3, 50, 4, 4, 0), (123, .goto 9, 3, 0, 0, 0, 0), (126, .aload_n 0, 1, 0, 0, 0, 0), (127, .aload_n 1, 1, 0, 0, 0, 0)],
  [(128, .aload_n 2, 1, 0, 0, 0, 0), (129, .invokevirtual 75, 3, 48, 3, 4, 0), (132, .ireturn, 1, 0, 0, 0, 0)]]
/-- LostKeys$Book.readLine(LLostKeys$Tape;LLostKeys$Town;)Z -/
def rx_m49 : rx_Md := (yX0_readLine, cX0_readLine, 5, (some .boolean), 3, 1, 0, 0, rx_t49)
def rx_t50 : List (List rx_E) := [
  [(0, .aload_n 1, 1, 0, 0, 0, 0), (1, .iload_n 2, 1, 0, 0, 0, 0), (2, .iload_n 3, 1, 0, 0, 0, 0), (3, .invokevirtual 78, 3, 116, 3, 11, 0), (6, .ifCond .ne 5, 3, 0, 0, 0, 0), (9, .iconst 0, 1, 0, 0, 0, 0), (10, .ireturn, 1, 0, 0, 0, 0), (11, .aload_n 0, 1, 0, 0, 0, 0), (12, .getfield 18, 3, 0, 3, 4, 0), (15, .aload_n 0, 1, 0, 0, 0, 0)],
  [(16, .getfield 27, 3, 0, 0, 0, 0), (19, .aload_n 1, 1, 0, 0, 0, 0), (20, .getfield 82, 3, 7, 11, 0, 0), (23, .iastore, 1, 0, 0, 0, 0), (24, .iconst 1, 1, 0, 0, 0, 0), (25, .ireturn, 1, 0, 0, 0, 0)]]
/-- LostKeys$Book.takeFirst(LLostKeys$Tape;II)Z -/
def rx_m50 : rx_Md := (yX0_takeFirst, cX0_takeFirst, 4, (some .boolean), 4, 1, 0, 0, rx_t50)
def rx_t51 : List (List rx_E) := [
  [(0, .aload_n 0, 1, 0, 0, 0, 0), (1, .invokespecial 3, 3, 0, 1, 1, 0), (4, .aload_n 0, 1, 0, 0, 0, 0), (5, .bipush 8, 2, 0, 0, 0, 0), (7, .anewarray 9, 3, 5, 0, 0, 0), (10, .putfield 11, 3, 1, 0, 4, 0), (13, .iconst 0, 1, 0, 0, 0, 0), (14, .istore_n 1, 1, 0, 0, 0, 0), (15, .iload_n 1, 1, 0, 0, 0, 0)],
  [(16, .bipush 8, 2, 0, 0, 0, 0), (18, .if_icmp .ge 22, 3, 0, 0, 0, 0), (21, .aload_n 0, 1, 0, 0, 0, 0), (22, .getfield 11, 3, 1, 0, 4, 0), (25, .iload_n 1, 1, 0, 0, 0, 0), (26, .new 9, 3, 5, 0, 0, 0), (29, .dup, 1, 0, 0, 0, 0), (30, .invokespecial 17, 3, 78, 1, 3, 0)],
  [(33, .aastore, 1, 0, 0, 0, 0), (34, .iinc 1 1, 3, 0, 0, 0, 0), (37, .goto (-22), 3, 0, 0, 0, 0), (40, .return_, 1, 0, 0, 0, 0)]]
/-- LostKeys$History.<init>()V -/
def rx_m51 : rx_Md := (yX1_init, cX1_init, 2, none, 1, 2, 73, 576, rx_t51)
def rx_t52 : List (List rx_E) := [
  [(0, .aload_n 0, 1, 0, 0, 0, 0), (1, .iconst 0, 1, 0, 0, 0, 0), (2, .putfield 18, 3, 1, 1, 0, 0), (5, .return_, 1, 0, 0, 0, 0)]]
/-- LostKeys$History.clear()V -/
def rx_m52 : rx_Md := (yX1_clear, cX1_clear, 1, none, 1, 1, 0, 0, rx_t52)
def rx_t53 : List (List rx_E) := [
  [(0, .aload_n 0, 1, 0, 0, 0, 0), (1, .getfield 11, 3, 1, 0, 4, 0), (4, .aload_n 0, 1, 0, 0, 0, 0), (5, .getfield 22, 3, 1, 2, 0, 0), (8, .aaload, 1, 0, 0, 0, 0), (9, .aload_n 1, 1, 0, 0, 0, 0), (10, .invokevirtual 25, 3, 81, 2, 9, 0), (13, .aload_n 0, 1, 0, 0, 0, 0), (14, .aload_n 0, 1, 0, 0, 0, 0), (15, .getfield 22, 3, 1, 2, 0, 0)],
  [(18, .iconst 1, 1, 0, 0, 0, 0), (19, .iadd, 1, 0, 0, 0, 0), (20, .bipush 8, 2, 0, 0, 0, 0), (22, .irem, 1, 0, 0, 0, 0), (23, .putfield 22, 3, 1, 2, 0, 0), (26, .aload_n 0, 1, 0, 0, 0, 0), (27, .aload_n 0, 1, 0, 0, 0, 0), (28, .getfield 18, 3, 1, 1, 0, 0), (31, .iconst 1, 1, 0, 0, 0, 0)],
  [(32, .iadd, 1, 0, 0, 0, 0), (33, .bipush 8, 2, 0, 0, 0, 0), (35, .invokestatic 29, 3, 0, 2, 4, 0), (38, .putfield 18, 3, 1, 1, 0, 0), (41, .return_, 1, 0, 0, 0, 0)]]
/-- LostKeys$History.keep(LLostKeys$State;)V -/
def rx_m53 : rx_Md := (yX1_keep, cX1_keep, 2, none, 2, 1, 0, 0, rx_t53)
def rx_t54 : List (List rx_E) := [
  [(0, .aload_n 0, 1, 0, 0, 0, 0), (1, .getfield 18, 3, 1, 1, 0, 0), (4, .ifCond .ne 5, 3, 0, 0, 0, 0), (7, .iconst 0, 1, 0, 0, 0, 0), (8, .ireturn, 1, 0, 0, 0, 0), (9, .aload_n 0, 1, 0, 0, 0, 0), (10, .aload_n 0, 1, 0, 0, 0, 0), (11, .getfield 22, 3, 1, 2, 0, 0), (14, .bipush 8, 2, 0, 0, 0, 0)],
  [(16, .iadd, 1, 0, 0, 0, 0), (17, .iconst 1, 1, 0, 0, 0, 0), (18, .isub, 1, 0, 0, 0, 0), (19, .bipush 8, 2, 0, 0, 0, 0), (21, .irem, 1, 0, 0, 0, 0), (22, .putfield 22, 3, 1, 2, 0, 0), (25, .aload_n 0, 1, 0, 0, 0, 0), (26, .dup, 1, 0, 0, 0, 0), (27, .getfield 18, 3, 1, 1, 0, 0), (30, .iconst 1, 1, 0, 0, 0, 0), (31, .isub, 1, 0, 0, 0, 0)],
  [(32, .putfield 18, 3, 1, 1, 0, 0), (35, .aload_n 1, 1, 0, 0, 0, 0), (36, .aload_n 0, 1, 0, 0, 0, 0), (37, .getfield 11, 3, 1, 0, 4, 0), (40, .aload_n 0, 1, 0, 0, 0, 0), (41, .getfield 22, 3, 1, 2, 0, 0), (44, .aaload, 1, 0, 0, 0, 0), (45, .invokevirtual 25, 3, 81, 2, 9, 0)],
  [(48, .iconst 1, 1, 0, 0, 0, 0), (49, .ireturn, 1, 0, 0, 0, 0)]]
/-- LostKeys$History.takeBack(LLostKeys$State;)Z -/
def rx_m54 : rx_Md := (yX1_takeBack, cX1_takeBack, 2, (some .boolean), 2, 1, 0, 0, rx_t54)
def rx_t55 : List (List rx_E) := [
  [(0, .aload_n 0, 1, 0, 0, 0, 0), (1, .invokespecial 1, 3, 0, 1, 1, 0), (4, .aload_n 0, 1, 0, 0, 0, 0), (5, .new 7, 3, 8, 0, 0, 0), (8, .dup, 1, 0, 0, 0, 0), (9, .invokespecial 9, 3, 119, 1, 3, 0), (12, .putfield 10, 3, 2, 1, 4, 0), (15, .aload_n 0, 1, 0, 0, 0, 0)],
  [(16, .new 16, 3, 5, 0, 0, 0), (19, .dup, 1, 0, 0, 0, 0), (20, .invokespecial 18, 3, 78, 1, 3, 0), (23, .putfield 19, 3, 2, 2, 4, 0), (26, .aload_n 0, 1, 0, 0, 0, 0), (27, .new 23, 3, 4, 0, 0, 0), (30, .dup, 1, 0, 0, 0, 0), (31, .invokespecial 25, 3, 67, 1, 3, 0)],
  [(34, .putfield 26, 3, 2, 3, 4, 0), (37, .return_, 1, 0, 0, 0, 0)]]
/-- LostKeys$Image.<init>()V -/
def rx_m55 : rx_Md := (yX2_init, cX2_init, 1, none, 1, 2, 27, 383, rx_t55)
def rx_t56 : List (List rx_E) := [
  [(0, .aload_n 0, 1, 0, 0, 0, 0), (1, .invokespecial 3, 3, 0, 1, 1, 0), (4, .aload_n 0, 1, 0, 0, 0, 0), (5, .bipush 6, 2, 0, 0, 0, 0), (7, .newarray .int, 2, 0, 0, 0, 0), (9, .putfield 9, 3, 3, 0, 4, 0), (12, .aload_n 0, 1, 0, 0, 0, 0), (13, .sipush 1792, 3, 0, 0, 0, 0)],
  [(16, .newarray .int, 2, 0, 0, 0, 0), (18, .putfield 15, 3, 3, 1, 4, 0), (21, .aload_n 0, 1, 0, 0, 0, 0), (22, .bipush 6, 2, 0, 0, 0, 0), (24, .newarray .int, 2, 0, 0, 0, 0), (26, .putfield 18, 3, 3, 2, 4, 0), (29, .aload_n 0, 1, 0, 0, 0, 0), (30, .bipush 6, 2, 0, 0, 0, 0)],
  [(32, .newarray .int, 2, 0, 0, 0, 0), (34, .putfield 21, 3, 3, 3, 4, 0), (37, .aload_n 0, 1, 0, 0, 0, 0), (38, .bipush 6, 2, 0, 0, 0, 0), (40, .newarray .int, 2, 0, 0, 0, 0), (42, .putfield 24, 3, 3, 4, 4, 0), (45, .aload_n 0, 1, 0, 0, 0, 0), (46, .bipush 8, 2, 0, 0, 0, 0)],
  [(48, .newarray .int, 2, 0, 0, 0, 0), (50, .putfield 27, 3, 3, 6, 4, 0), (53, .aload_n 0, 1, 0, 0, 0, 0), (54, .getfield 18, 3, 3, 2, 4, 0), (57, .iconst (-1), 1, 0, 0, 0, 0), (58, .invokestatic 30, 3, 282, 2, 0, 0), (61, .return_, 1, 0, 0, 0, 0)]]
/-- LostKeys$Search.<init>()V -/
def rx_m56 : rx_Md := (yX3_init, cX3_init, 1, none, 1, 2, 6, 1824, rx_t56)
def rx_t57 : List (List rx_E) := [
  [(0, .aload_n 0, 1, 0, 0, 0, 0), (1, .getfield 93, 3, 8, 7, 4, 0), (4, .iload_n 1, 1, 0, 0, 0, 0), (5, .iaload, 1, 0, 0, 0, 0), (6, .iload_n 2, 1, 0, 0, 0, 0), (7, .if_icmp .ne 12, 3, 0, 0, 0, 0), (10, .aload_n 0, 1, 0, 0, 0, 0), (11, .getfield 96, 3, 8, 8, 4, 0), (14, .iload_n 1, 1, 0, 0, 0, 0), (15, .iaload, 1, 0, 0, 0, 0)],
  [(16, .goto 9, 3, 0, 0, 0, 0), (19, .aload_n 0, 1, 0, 0, 0, 0), (20, .getfield 93, 3, 8, 7, 4, 0), (23, .iload_n 1, 1, 0, 0, 0, 0), (24, .iaload, 1, 0, 0, 0, 0), (25, .ireturn, 1, 0, 0, 0, 0)]]
/-- LostKeys$Search.behind(LLostKeys$Town;II)I -/
def rx_m57 : rx_Md := (yX3_behind, cX3_behind, 3, (some .int), 3, 0, 0, 0, rx_t57)
def rx_t58 : List (List rx_E) := [
  [(0, .aload_n 2, 1, 0, 0, 0, 0), (1, .getfield 71, 3, 5, 9, 4, 0), (4, .iload 5, 2, 0, 0, 0, 0), (6, .iaload, 1, 0, 0, 0, 0), (7, .aload_n 1, 1, 0, 0, 0, 0), (8, .getfield 74, 3, 8, 11, 4, 0), (11, .aload_n 0, 1, 0, 0, 0, 0), (12, .getfield 9, 3, 3, 0, 4, 0), (15, .iload_n 3, 1, 0, 0, 0, 0)],
  [(16, .iaload, 1, 0, 0, 0, 0), (17, .iaload, 1, 0, 0, 0, 0), (18, .ixor, 1, 0, 0, 0, 0), (19, .invokestatic 47, 3, 274, 1, 0, 0), (22, .istore 6, 2, 0, 0, 0, 0), (24, .iload 6, 2, 0, 0, 0, 0), (26, .aload_n 0, 1, 0, 0, 0, 0), (27, .getfield 15, 3, 3, 1, 4, 0), (30, .iload_n 3, 1, 0, 0, 0, 0), (31, .iconst 1, 1, 0, 0, 0, 0)],
  [(32, .iadd, 1, 0, 0, 0, 0), (33, .sipush 256, 3, 0, 0, 0, 0), (36, .imul, 1, 0, 0, 0, 0), (37, .iload 4, 2, 0, 0, 0, 0), (39, .iconst 1, 1, 0, 0, 0, 0), (40, .iload 5, 2, 0, 0, 0, 0), (42, .ishl, 1, 0, 0, 0, 0), (43, .ior, 1, 0, 0, 0, 0), (44, .iadd, 1, 0, 0, 0, 0), (45, .iaload, 1, 0, 0, 0, 0), (46, .iadd, 1, 0, 0, 0, 0), (47, .ireturn, 1, 0, 0, 0, 0)]]
/-- LostKeys$Search.bitsWith(LLostKeys$Town;LLostKeys$State;III)I -/
def rx_m58 : rx_Md := (yX3_bitsWith, cX3_bitsWith, 7, (some .int), 6, 1, 0, 0, rx_t58)
def rx_t59 : List (List rx_E) := [
  [(0, .aload_n 0, 1, 0, 0, 0, 0), (1, .getfield 18, 3, 3, 2, 4, 0), (4, .iconst (-1), 1, 0, 0, 0, 0), (5, .invokestatic 30, 3, 282, 2, 0, 0), (8, .iconst 0, 1, 0, 0, 0, 0), (9, .istore 4, 2, 0, 0, 0, 0), (11, .iconst 0, 1, 0, 0, 0, 0), (12, .istore 5, 2, 0, 0, 0, 0), (14, .iload 5, 2, 0, 0, 0, 0)],
  [(16, .iload_n 3, 1, 0, 0, 0, 0), (17, .if_icmp .ge 107, 3, 0, 0, 0, 0), (20, .aload_n 0, 1, 0, 0, 0, 0), (21, .getfield 15, 3, 3, 1, 4, 0), (24, .iload 5, 2, 0, 0, 0, 0), (26, .sipush 256, 3, 0, 0, 0, 0), (29, .imul, 1, 0, 0, 0, 0), (30, .iload 4, 2, 0, 0, 0, 0)],
  [(32, .iadd, 1, 0, 0, 0, 0), (33, .iaload, 1, 0, 0, 0, 0), (34, .istore 6, 2, 0, 0, 0, 0), (36, .iconst 0, 1, 0, 0, 0, 0), (37, .istore 7, 2, 0, 0, 0, 0), (39, .iload 7, 2, 0, 0, 0, 0), (41, .aload_n 1, 1, 0, 0, 0, 0), (42, .getfield 36, 3, 8, 5, 4, 0), (45, .iconst 3, 1, 0, 0, 0, 0), (46, .iaload, 1, 0, 0, 0, 0), (47, .if_icmp .ge 37, 3, 0, 0, 0, 0)],
  [(50, .iload 4, 2, 0, 0, 0, 0), (52, .iload 7, 2, 0, 0, 0, 0), (54, .ishr, 1, 0, 0, 0, 0), (55, .iconst 1, 1, 0, 0, 0, 0), (56, .iand, 1, 0, 0, 0, 0), (57, .iconst 1, 1, 0, 0, 0, 0), (58, .if_icmp .eq 20, 3, 0, 0, 0, 0), (61, .aload_n 0, 1, 0, 0, 0, 0), (62, .aload_n 1, 1, 0, 0, 0, 0), (63, .aload_n 2, 1, 0, 0, 0, 0)],
  [(64, .iload 5, 2, 0, 0, 0, 0), (66, .iload 4, 2, 0, 0, 0, 0), (68, .iload 7, 2, 0, 0, 0, 0), (70, .invokevirtual 61, 3, 58, 6, 7, 0), (73, .iload 6, 2, 0, 0, 0, 0), (75, .if_icmp .eq 9, 3, 0, 0, 0, 0), (78, .iinc 7 1, 3, 0, 0, 0, 0)],
  [(81, .goto (-42), 3, 0, 0, 0, 0), (84, .iload 7, 2, 0, 0, 0, 0), (86, .aload_n 1, 1, 0, 0, 0, 0), (87, .getfield 36, 3, 8, 5, 4, 0), (90, .iconst 3, 1, 0, 0, 0, 0), (91, .iaload, 1, 0, 0, 0, 0), (92, .if_icmp .ge 26, 3, 0, 0, 0, 0), (95, .aload_n 0, 1, 0, 0, 0, 0)],
  [(96, .getfield 18, 3, 3, 2, 4, 0), (99, .aload_n 0, 1, 0, 0, 0, 0), (100, .getfield 9, 3, 3, 0, 4, 0), (103, .iload 5, 2, 0, 0, 0, 0), (105, .iaload, 1, 0, 0, 0, 0), (106, .iload 7, 2, 0, 0, 0, 0), (108, .iastore, 1, 0, 0, 0, 0), (109, .iload 4, 2, 0, 0, 0, 0), (111, .iconst 1, 1, 0, 0, 0, 0)],
  [(112, .iload 7, 2, 0, 0, 0, 0), (114, .ishl, 1, 0, 0, 0, 0), (115, .ior, 1, 0, 0, 0, 0), (116, .istore 4, 2, 0, 0, 0, 0), (118, .iinc 5 1, 3, 0, 0, 0, 0), (121, .goto (-107), 3, 0, 0, 0, 0), (124, .return_, 1, 0, 0, 0, 0)]]
/-- LostKeys$Search.chooseKeys(LLostKeys$Town;LLostKeys$State;I)V -/
def rx_m59 : rx_Md := (yX3_chooseKeys, cX3_chooseKeys, 8, none, 4, 1, 0, 0, rx_t59)
def rx_t60 : List (List rx_E) := [
  [(0, .sipush 1000, 3, 0, 0, 0, 0), (3, .istore 5, 2, 0, 0, 0, 0), (5, .iconst 0, 1, 0, 0, 0, 0), (6, .istore 6, 2, 0, 0, 0, 0), (8, .iload 6, 2, 0, 0, 0, 0), (10, .aload_n 1, 1, 0, 0, 0, 0), (11, .getfield 36, 3, 8, 5, 4, 0), (14, .iconst 3, 1, 0, 0, 0, 0), (15, .iaload, 1, 0, 0, 0, 0)],
  [(16, .if_icmp .ge 37, 3, 0, 0, 0, 0), (19, .iload 4, 2, 0, 0, 0, 0), (21, .iload 6, 2, 0, 0, 0, 0), (23, .ishr, 1, 0, 0, 0, 0), (24, .iconst 1, 1, 0, 0, 0, 0), (25, .iand, 1, 0, 0, 0, 0), (26, .ifCond .ne 21, 3, 0, 0, 0, 0), (29, .iload 5, 2, 0, 0, 0, 0), (31, .aload_n 0, 1, 0, 0, 0, 0)],
  [(32, .aload_n 1, 1, 0, 0, 0, 0), (33, .aload_n 2, 1, 0, 0, 0, 0), (34, .iload_n 3, 1, 0, 0, 0, 0), (35, .iload 4, 2, 0, 0, 0, 0), (37, .iload 6, 2, 0, 0, 0, 0), (39, .invokevirtual 61, 3, 58, 6, 7, 0), (42, .invokestatic 65, 3, 0, 2, 4, 0), (45, .istore 5, 2, 0, 0, 0, 0), (47, .iinc 6 1, 3, 0, 0, 0, 0)],
  [(50, .goto (-42), 3, 0, 0, 0, 0), (53, .iload 5, 2, 0, 0, 0, 0), (55, .ireturn, 1, 0, 0, 0, 0)]]
/-- LostKeys$Search.fewestFrom(LLostKeys$Town;LLostKeys$State;II)I -/
def rx_m60 : rx_Md := (yX3_fewestFrom, cX3_fewestFrom, 7, (some .int), 5, 1, 0, 0, rx_t60)
def rx_t61 : List (List rx_E) := [
  [(0, .aload_n 0, 1, 0, 0, 0, 0), (1, .aload_n 1, 1, 0, 0, 0, 0), (2, .iload_n 2, 1, 0, 0, 0, 0), (3, .iload 4, 2, 0, 0, 0, 0), (5, .invokevirtual 77, 3, 65, 4, 7, 0), (8, .aload_n 0, 1, 0, 0, 0, 0), (9, .getfield 21, 3, 3, 3, 4, 0), (12, .iload_n 3, 1, 0, 0, 0, 0), (13, .iaload, 1, 0, 0, 0, 0), (14, .sipush 1000, 3, 0, 0, 0, 0)],
  [(17, .if_icmp .ne 5, 3, 0, 0, 0, 0), (20, .iconst (-1), 1, 0, 0, 0, 0), (21, .ireturn, 1, 0, 0, 0, 0), (22, .aload_n 0, 1, 0, 0, 0, 0), (23, .aload_n 0, 1, 0, 0, 0, 0), (24, .getfield 21, 3, 3, 3, 4, 0), (27, .iload_n 3, 1, 0, 0, 0, 0), (28, .iaload, 1, 0, 0, 0, 0), (29, .putfield 81, 3, 3, 5, 0, 0)],
  [(32, .iload_n 3, 1, 0, 0, 0, 0), (33, .istore 5, 2, 0, 0, 0, 0), (35, .iconst 0, 1, 0, 0, 0, 0), (36, .istore 6, 2, 0, 0, 0, 0), (38, .iload 6, 2, 0, 0, 0, 0), (40, .aload_n 0, 1, 0, 0, 0, 0), (41, .getfield 81, 3, 3, 5, 0, 0), (44, .if_icmp .ge 74, 3, 0, 0, 0, 0), (47, .iconst 0, 1, 0, 0, 0, 0)],
  [(48, .istore 7, 2, 0, 0, 0, 0), (50, .iload 7, 2, 0, 0, 0, 0), (52, .aload_n 1, 1, 0, 0, 0, 0), (53, .getfield 36, 3, 8, 5, 4, 0), (56, .iconst 1, 1, 0, 0, 0, 0), (57, .iaload, 1, 0, 0, 0, 0), (58, .if_icmp .ge 22, 3, 0, 0, 0, 0), (61, .aload_n 0, 1, 0, 0, 0, 0), (62, .aload_n 1, 1, 0, 0, 0, 0), (63, .iload_n 2, 1, 0, 0, 0, 0)],
  [(64, .iload 7, 2, 0, 0, 0, 0), (66, .iload 5, 2, 0, 0, 0, 0), (68, .invokevirtual 85, 3, 62, 5, 7, 0), (71, .ifCond .ne 9, 3, 0, 0, 0, 0), (74, .iinc 7 1, 3, 0, 0, 0, 0), (77, .goto (-27), 3, 0, 0, 0, 0)],
  [(80, .iload 7, 2, 0, 0, 0, 0), (82, .aload_n 1, 1, 0, 0, 0, 0), (83, .getfield 36, 3, 8, 5, 4, 0), (86, .iconst 1, 1, 0, 0, 0, 0), (87, .iaload, 1, 0, 0, 0, 0), (88, .if_icmp .lt 5, 3, 0, 0, 0, 0), (91, .iconst (-1), 1, 0, 0, 0, 0), (92, .ireturn, 1, 0, 0, 0, 0), (93, .aload_n 0, 1, 0, 0, 0, 0), (94, .getfield 24, 3, 3, 4, 4, 0)],
  [(97, .iload 6, 2, 0, 0, 0, 0), (99, .iload 7, 2, 0, 0, 0, 0), (101, .iastore, 1, 0, 0, 0, 0), (102, .aload_n 1, 1, 0, 0, 0, 0), (103, .iload 7, 2, 0, 0, 0, 0), (105, .iload 5, 2, 0, 0, 0, 0), (107, .invokestatic 89, 3, 57, 3, 0, 0), (110, .istore 5, 2, 0, 0, 0, 0)],
  [(112, .iinc 6 1, 3, 0, 0, 0, 0), (115, .goto (-77), 3, 0, 0, 0, 0), (118, .aload_n 0, 1, 0, 0, 0, 0), (119, .getfield 81, 3, 3, 5, 0, 0), (122, .ireturn, 1, 0, 0, 0, 0)]]
/-- LostKeys$Search.findWay(LLostKeys$Town;III)I -/
def rx_m61 : rx_Md := (yX3_findWay, cX3_findWay, 8, (some .int), 5, 1, 0, 0, rx_t61)
def rx_t62 : List (List rx_E) := [
  [(0, .aload_n 1, 1, 0, 0, 0, 0), (1, .getfield 93, 3, 8, 7, 4, 0), (4, .iload_n 3, 1, 0, 0, 0, 0), (5, .iaload, 1, 0, 0, 0, 0), (6, .iload 4, 2, 0, 0, 0, 0), (8, .if_icmp .eq 14, 3, 0, 0, 0, 0), (11, .aload_n 1, 1, 0, 0, 0, 0), (12, .getfield 96, 3, 8, 8, 4, 0), (15, .iload_n 3, 1, 0, 0, 0, 0)],
  [(16, .iaload, 1, 0, 0, 0, 0), (17, .iload 4, 2, 0, 0, 0, 0), (19, .if_icmp .ne 7, 3, 0, 0, 0, 0), (22, .iconst 1, 1, 0, 0, 0, 0), (23, .goto 4, 3, 0, 0, 0, 0), (26, .iconst 0, 1, 0, 0, 0, 0), (27, .istore 5, 2, 0, 0, 0, 0), (29, .iload 5, 2, 0, 0, 0, 0), (31, .ifCond .eq 40, 3, 0, 0, 0, 0)],
  [(34, .iload_n 2, 1, 0, 0, 0, 0), (35, .iload_n 3, 1, 0, 0, 0, 0), (36, .ishr, 1, 0, 0, 0, 0), (37, .iconst 1, 1, 0, 0, 0, 0), (38, .iand, 1, 0, 0, 0, 0), (39, .iconst 1, 1, 0, 0, 0, 0), (40, .if_icmp .ne 31, 3, 0, 0, 0, 0), (43, .aload_n 0, 1, 0, 0, 0, 0), (44, .getfield 21, 3, 3, 3, 4, 0), (47, .aload_n 1, 1, 0, 0, 0, 0)],
  [(48, .iload_n 3, 1, 0, 0, 0, 0), (49, .iload 4, 2, 0, 0, 0, 0), (51, .invokestatic 89, 3, 57, 3, 0, 0), (54, .iaload, 1, 0, 0, 0, 0), (55, .aload_n 0, 1, 0, 0, 0, 0), (56, .getfield 21, 3, 3, 3, 4, 0), (59, .iload 4, 2, 0, 0, 0, 0), (61, .iaload, 1, 0, 0, 0, 0), (62, .iconst 1, 1, 0, 0, 0, 0), (63, .isub, 1, 0, 0, 0, 0)],
  [(64, .if_icmp .ne 7, 3, 0, 0, 0, 0), (67, .iconst 1, 1, 0, 0, 0, 0), (68, .goto 4, 3, 0, 0, 0, 0), (71, .iconst 0, 1, 0, 0, 0, 0), (72, .ireturn, 1, 0, 0, 0, 0)]]
/-- LostKeys$Search.leadsOn(LLostKeys$Town;III)Z -/
def rx_m62 : rx_Md := (yX3_leadsOn, cX3_leadsOn, 6, (some .boolean), 5, 1, 0, 0, rx_t62)
def rx_t63 : List (List rx_E) := [
  [(0, .iconst 0, 1, 0, 0, 0, 0), (1, .istore_n 3, 1, 0, 0, 0, 0), (2, .iconst 0, 1, 0, 0, 0, 0), (3, .istore 4, 2, 0, 0, 0, 0), (5, .iload 4, 2, 0, 0, 0, 0), (7, .aload_n 1, 1, 0, 0, 0, 0), (8, .getfield 36, 3, 8, 5, 4, 0), (11, .iconst 1, 1, 0, 0, 0, 0), (12, .iaload, 1, 0, 0, 0, 0), (13, .if_icmp .ge 29, 3, 0, 0, 0, 0)],
  [(16, .aload_n 2, 1, 0, 0, 0, 0), (17, .iload 4, 2, 0, 0, 0, 0), (19, .invokevirtual 41, 3, 88, 2, 9, 0), (22, .ifCond .ne 14, 3, 0, 0, 0, 0), (25, .aload_n 0, 1, 0, 0, 0, 0), (26, .getfield 9, 3, 3, 0, 4, 0), (29, .iload_n 3, 1, 0, 0, 0, 0), (30, .iload 4, 2, 0, 0, 0, 0)],
  [(32, .iastore, 1, 0, 0, 0, 0), (33, .iinc 3 1, 3, 0, 0, 0, 0), (36, .iinc 4 1, 3, 0, 0, 0, 0), (39, .goto (-34), 3, 0, 0, 0, 0), (42, .aload_n 1, 1, 0, 0, 0, 0), (43, .getfield 36, 3, 8, 5, 4, 0), (46, .iconst 3, 1, 0, 0, 0, 0), (47, .iaload, 1, 0, 0, 0, 0)],
  [(48, .istore 4, 2, 0, 0, 0, 0), (50, .iload 4, 2, 0, 0, 0, 0), (52, .iload_n 3, 1, 0, 0, 0, 0), (53, .if_icmp .ge 5, 3, 0, 0, 0, 0), (56, .iconst (-1), 1, 0, 0, 0, 0), (57, .ireturn, 1, 0, 0, 0, 0), (58, .aload_n 0, 1, 0, 0, 0, 0), (59, .getfield 15, 3, 3, 1, 4, 0), (62, .iconst 0, 1, 0, 0, 0, 0), (63, .invokestatic 30, 3, 282, 2, 0, 0)],
  [(66, .iload_n 3, 1, 0, 0, 0, 0), (67, .iconst 1, 1, 0, 0, 0, 0), (68, .isub, 1, 0, 0, 0, 0), (69, .istore 5, 2, 0, 0, 0, 0), (71, .iload 5, 2, 0, 0, 0, 0), (73, .ifCond .lt 61, 3, 0, 0, 0, 0), (76, .iconst 0, 1, 0, 0, 0, 0), (77, .istore 6, 2, 0, 0, 0, 0), (79, .iload 6, 2, 0, 0, 0, 0)],
  [(81, .iconst 1, 1, 0, 0, 0, 0), (82, .iload 4, 2, 0, 0, 0, 0), (84, .ishl, 1, 0, 0, 0, 0), (85, .if_icmp .ge 43, 3, 0, 0, 0, 0), (88, .iload 6, 2, 0, 0, 0, 0), (90, .invokestatic 47, 3, 274, 1, 0, 0), (93, .iload 5, 2, 0, 0, 0, 0), (95, .if_icmp .ne 27, 3, 0, 0, 0, 0)],
  [(98, .aload_n 0, 1, 0, 0, 0, 0), (99, .getfield 15, 3, 3, 1, 4, 0), (102, .iload 5, 2, 0, 0, 0, 0), (104, .sipush 256, 3, 0, 0, 0, 0), (107, .imul, 1, 0, 0, 0, 0), (108, .iload 6, 2, 0, 0, 0, 0), (110, .iadd, 1, 0, 0, 0, 0), (111, .aload_n 0, 1, 0, 0, 0, 0)],
  [(112, .aload_n 1, 1, 0, 0, 0, 0), (113, .aload_n 2, 1, 0, 0, 0, 0), (114, .iload 5, 2, 0, 0, 0, 0), (116, .iload 6, 2, 0, 0, 0, 0), (118, .invokevirtual 53, 3, 60, 5, 7, 0), (121, .iastore, 1, 0, 0, 0, 0), (122, .iinc 6 1, 3, 0, 0, 0, 0), (125, .goto (-46), 3, 0, 0, 0, 0)],
  [(128, .iinc 5 (-1), 3, 0, 0, 0, 0), (131, .goto (-60), 3, 0, 0, 0, 0), (134, .aload_n 0, 1, 0, 0, 0, 0), (135, .aload_n 1, 1, 0, 0, 0, 0), (136, .aload_n 2, 1, 0, 0, 0, 0), (137, .iload_n 3, 1, 0, 0, 0, 0), (138, .invokevirtual 57, 3, 59, 4, 7, 0), (141, .aload_n 0, 1, 0, 0, 0, 0), (142, .getfield 15, 3, 3, 1, 4, 0)],
  [(145, .iconst 0, 1, 0, 0, 0, 0), (146, .iaload, 1, 0, 0, 0, 0), (147, .ireturn, 1, 0, 0, 0, 0)]]
/-- LostKeys$Search.matchLocks(LLostKeys$Town;LLostKeys$State;)I -/
def rx_m63 : rx_Md := (yX3_matchLocks, cX3_matchLocks, 7, (some .int), 3, 1, 0, 0, rx_t63)
def rx_t64 : List (List rx_E) := [
  [(0, .iconst 0, 1, 0, 0, 0, 0), (1, .istore 5, 2, 0, 0, 0, 0), (3, .iload 5, 2, 0, 0, 0, 0), (5, .aload_n 1, 1, 0, 0, 0, 0), (6, .getfield 36, 3, 8, 5, 4, 0), (9, .iconst 3, 1, 0, 0, 0, 0), (10, .iaload, 1, 0, 0, 0, 0), (11, .if_icmp .ge 32, 3, 0, 0, 0, 0), (14, .aload_n 0, 1, 0, 0, 0, 0), (15, .getfield 27, 3, 3, 6, 4, 0)],
  [(18, .iload 5, 2, 0, 0, 0, 0), (20, .aload_n 1, 1, 0, 0, 0, 0), (21, .iload 5, 2, 0, 0, 0, 0), (23, .iload_n 3, 1, 0, 0, 0, 0), (24, .bipush 6, 2, 0, 0, 0, 0), (26, .irem, 1, 0, 0, 0, 0), (27, .iload_n 3, 1, 0, 0, 0, 0), (28, .bipush 6, 2, 0, 0, 0, 0), (30, .idiv, 1, 0, 0, 0, 0), (31, .iload 4, 2, 0, 0, 0, 0)],
  [(33, .invokevirtual 109, 3, 140, 5, 12, 0), (36, .iastore, 1, 0, 0, 0, 0), (37, .iinc 5 1, 3, 0, 0, 0, 0), (40, .goto (-37), 3, 0, 0, 0, 0), (43, .iconst 0, 1, 0, 0, 0, 0), (44, .istore 5, 2, 0, 0, 0, 0), (46, .iconst 0, 1, 0, 0, 0, 0), (47, .istore 6, 2, 0, 0, 0, 0)],
  [(49, .iload 6, 2, 0, 0, 0, 0), (51, .aload_n 1, 1, 0, 0, 0, 0), (52, .getfield 36, 3, 8, 5, 4, 0), (55, .iconst 3, 1, 0, 0, 0, 0), (56, .iaload, 1, 0, 0, 0, 0), (57, .if_icmp .ge 78, 3, 0, 0, 0, 0), (60, .iconst 0, 1, 0, 0, 0, 0), (61, .istore 7, 2, 0, 0, 0, 0), (63, .iconst 0, 1, 0, 0, 0, 0)],
  [(64, .istore 8, 2, 0, 0, 0, 0), (66, .iload 8, 2, 0, 0, 0, 0), (68, .aload_n 1, 1, 0, 0, 0, 0), (69, .getfield 36, 3, 8, 5, 4, 0), (72, .iconst 3, 1, 0, 0, 0, 0), (73, .iaload, 1, 0, 0, 0, 0), (74, .if_icmp .ge 46, 3, 0, 0, 0, 0), (77, .iload 7, 2, 0, 0, 0, 0), (79, .iload_n 2, 1, 0, 0, 0, 0)],
  [(80, .iload 8, 2, 0, 0, 0, 0), (82, .ishr, 1, 0, 0, 0, 0), (83, .iconst 1, 1, 0, 0, 0, 0), (84, .iand, 1, 0, 0, 0, 0), (85, .iconst 1, 1, 0, 0, 0, 0), (86, .if_icmp .ne 24, 3, 0, 0, 0, 0), (89, .aload_n 0, 1, 0, 0, 0, 0), (90, .getfield 27, 3, 3, 6, 4, 0), (93, .iload 8, 2, 0, 0, 0, 0), (95, .iaload, 1, 0, 0, 0, 0)],
  [(96, .aload_n 0, 1, 0, 0, 0, 0), (97, .getfield 27, 3, 3, 6, 4, 0), (100, .iload 6, 2, 0, 0, 0, 0), (102, .iaload, 1, 0, 0, 0, 0), (103, .if_icmp .ne 7, 3, 0, 0, 0, 0), (106, .iconst 1, 1, 0, 0, 0, 0), (107, .goto 4, 3, 0, 0, 0, 0), (110, .iconst 0, 1, 0, 0, 0, 0), (111, .iadd, 1, 0, 0, 0, 0)],
  [(112, .istore 7, 2, 0, 0, 0, 0), (114, .iinc 8 1, 3, 0, 0, 0, 0), (117, .goto (-51), 3, 0, 0, 0, 0), (120, .iload 5, 2, 0, 0, 0, 0), (122, .iload 7, 2, 0, 0, 0, 0), (124, .invokestatic 113, 3, 0, 2, 5, 0), (127, .istore 5, 2, 0, 0, 0, 0)],
  [(129, .iinc 6 1, 3, 0, 0, 0, 0), (132, .goto (-83), 3, 0, 0, 0, 0), (135, .iload 5, 2, 0, 0, 0, 0), (137, .ireturn, 1, 0, 0, 0, 0)]]
/-- LostKeys$Search.mostLeft(LLostKeys$Town;III)I -/
def rx_m64 : rx_Md := (yX3_mostLeft, cX3_mostLeft, 9, (some .int), 5, 1, 0, 0, rx_t64)
def rx_t65 : List (List rx_E) := [
  [(0, .aload_n 0, 1, 0, 0, 0, 0), (1, .getfield 21, 3, 3, 3, 4, 0), (4, .sipush 1000, 3, 0, 0, 0, 0), (7, .invokestatic 30, 3, 282, 2, 0, 0), (10, .aload_n 0, 1, 0, 0, 0, 0), (11, .getfield 21, 3, 3, 3, 4, 0), (14, .iload_n 3, 1, 0, 0, 0, 0), (15, .iconst 0, 1, 0, 0, 0, 0)],
  [(16, .iastore, 1, 0, 0, 0, 0), (17, .iconst 0, 1, 0, 0, 0, 0), (18, .istore 4, 2, 0, 0, 0, 0), (20, .iload 4, 2, 0, 0, 0, 0), (22, .aload_n 1, 1, 0, 0, 0, 0), (23, .getfield 36, 3, 8, 5, 4, 0), (26, .iconst 0, 1, 0, 0, 0, 0), (27, .iaload, 1, 0, 0, 0, 0), (28, .if_icmp .ge 109, 3, 0, 0, 0, 0), (31, .iconst 0, 1, 0, 0, 0, 0)],
  [(32, .istore 5, 2, 0, 0, 0, 0), (34, .iload 5, 2, 0, 0, 0, 0), (36, .aload_n 1, 1, 0, 0, 0, 0), (37, .getfield 36, 3, 8, 5, 4, 0), (40, .iconst 1, 1, 0, 0, 0, 0), (41, .iaload, 1, 0, 0, 0, 0), (42, .if_icmp .ge 89, 3, 0, 0, 0, 0), (45, .iload_n 2, 1, 0, 0, 0, 0), (46, .iload 5, 2, 0, 0, 0, 0)],
  [(48, .ishr, 1, 0, 0, 0, 0), (49, .iconst 1, 1, 0, 0, 0, 0), (50, .iand, 1, 0, 0, 0, 0), (51, .iconst 1, 1, 0, 0, 0, 0), (52, .if_icmp .ne 73, 3, 0, 0, 0, 0), (55, .aload_n 1, 1, 0, 0, 0, 0), (56, .getfield 93, 3, 8, 7, 4, 0), (59, .iload 5, 2, 0, 0, 0, 0), (61, .iaload, 1, 0, 0, 0, 0), (62, .istore 6, 2, 0, 0, 0, 0)],
  [(64, .aload_n 1, 1, 0, 0, 0, 0), (65, .getfield 96, 3, 8, 8, 4, 0), (68, .iload 5, 2, 0, 0, 0, 0), (70, .iaload, 1, 0, 0, 0, 0), (71, .istore 7, 2, 0, 0, 0, 0), (73, .aload_n 0, 1, 0, 0, 0, 0), (74, .getfield 21, 3, 3, 3, 4, 0), (77, .iload 6, 2, 0, 0, 0, 0), (79, .aload_n 0, 1, 0, 0, 0, 0)],
  [(80, .getfield 21, 3, 3, 3, 4, 0), (83, .iload 6, 2, 0, 0, 0, 0), (85, .iaload, 1, 0, 0, 0, 0), (86, .aload_n 0, 1, 0, 0, 0, 0), (87, .getfield 21, 3, 3, 3, 4, 0), (90, .iload 7, 2, 0, 0, 0, 0), (92, .iaload, 1, 0, 0, 0, 0), (93, .iconst 1, 1, 0, 0, 0, 0), (94, .iadd, 1, 0, 0, 0, 0), (95, .invokestatic 65, 3, 0, 2, 4, 0)],
  [(98, .iastore, 1, 0, 0, 0, 0), (99, .aload_n 0, 1, 0, 0, 0, 0), (100, .getfield 21, 3, 3, 3, 4, 0), (103, .iload 7, 2, 0, 0, 0, 0), (105, .aload_n 0, 1, 0, 0, 0, 0), (106, .getfield 21, 3, 3, 3, 4, 0), (109, .iload 7, 2, 0, 0, 0, 0), (111, .iaload, 1, 0, 0, 0, 0)],
  [(112, .aload_n 0, 1, 0, 0, 0, 0), (113, .getfield 21, 3, 3, 3, 4, 0), (116, .iload 6, 2, 0, 0, 0, 0), (118, .iaload, 1, 0, 0, 0, 0), (119, .iconst 1, 1, 0, 0, 0, 0), (120, .iadd, 1, 0, 0, 0, 0), (121, .invokestatic 65, 3, 0, 2, 4, 0), (124, .iastore, 1, 0, 0, 0, 0), (125, .iinc 5 1, 3, 0, 0, 0, 0)],
  [(128, .goto (-94), 3, 0, 0, 0, 0), (131, .iinc 4 1, 3, 0, 0, 0, 0), (134, .goto (-114), 3, 0, 0, 0, 0), (137, .return_, 1, 0, 0, 0, 0)]]
/-- LostKeys$Search.tellDistances(LLostKeys$Town;II)V -/
def rx_m65 : rx_Md := (yX3_tellDistances, cX3_tellDistances, 8, none, 4, 1, 0, 0, rx_t65)
def rx_t66 : List (List rx_E) := [
  [(0, .iconst (-1), 1, 0, 0, 0, 0), (1, .istore 4, 2, 0, 0, 0, 0), (3, .sipush 1000, 3, 0, 0, 0, 0), (6, .istore 5, 2, 0, 0, 0, 0), (8, .iconst 0, 1, 0, 0, 0, 0), (9, .istore 6, 2, 0, 0, 0, 0), (11, .iload 6, 2, 0, 0, 0, 0), (13, .aload_n 1, 1, 0, 0, 0, 0), (14, .getfield 99, 3, 8, 1, 0, 0)],
  [(17, .if_icmp .ge 65, 3, 0, 0, 0, 0), (20, .iconst 0, 1, 0, 0, 0, 0), (21, .istore 7, 2, 0, 0, 0, 0), (23, .iload 7, 2, 0, 0, 0, 0), (25, .aload_n 1, 1, 0, 0, 0, 0), (26, .getfield 102, 3, 8, 0, 0, 0), (29, .if_icmp .ge 47, 3, 0, 0, 0, 0)],
  [(32, .aload_n 0, 1, 0, 0, 0, 0), (33, .aload_n 1, 1, 0, 0, 0, 0), (34, .iload_n 2, 1, 0, 0, 0, 0), (35, .bipush 6, 2, 0, 0, 0, 0), (37, .iload 6, 2, 0, 0, 0, 0), (39, .imul, 1, 0, 0, 0, 0), (40, .iload 7, 2, 0, 0, 0, 0), (42, .iadd, 1, 0, 0, 0, 0), (43, .iload_n 3, 1, 0, 0, 0, 0), (44, .invokevirtual 105, 3, 64, 5, 7, 0), (47, .istore 8, 2, 0, 0, 0, 0)],
  [(49, .iload 8, 2, 0, 0, 0, 0), (51, .iload 5, 2, 0, 0, 0, 0), (53, .if_icmp .ge 17, 3, 0, 0, 0, 0), (56, .iload 8, 2, 0, 0, 0, 0), (58, .istore 5, 2, 0, 0, 0, 0), (60, .bipush 6, 2, 0, 0, 0, 0), (62, .iload 6, 2, 0, 0, 0, 0)],
  [(64, .imul, 1, 0, 0, 0, 0), (65, .iload 7, 2, 0, 0, 0, 0), (67, .iadd, 1, 0, 0, 0, 0), (68, .istore 4, 2, 0, 0, 0, 0), (70, .iinc 7 1, 3, 0, 0, 0, 0), (73, .goto (-50), 3, 0, 0, 0, 0), (76, .iinc 6 1, 3, 0, 0, 0, 0), (79, .goto (-68), 3, 0, 0, 0, 0)],
  [(82, .iload 4, 2, 0, 0, 0, 0), (84, .ireturn, 1, 0, 0, 0, 0)]]
/-- LostKeys$Search.tellingCell(LLostKeys$Town;II)I -/
def rx_m66 : rx_Md := (yX3_tellingCell, cX3_tellingCell, 9, (some .int), 4, 1, 0, 0, rx_t66)
def rx_t67 : List (List rx_E) := [
  [(0, .aload_n 0, 1, 0, 0, 0, 0), (1, .invokespecial 3, 3, 0, 1, 1, 0), (4, .aload_n 0, 1, 0, 0, 0, 0), (5, .bipush 40, 2, 0, 0, 0, 0), (7, .newarray .int, 2, 0, 0, 0, 0), (9, .putfield 9, 3, 4, 2, 4, 0), (12, .aload_n 0, 1, 0, 0, 0, 0), (13, .bipush 40, 2, 0, 0, 0, 0), (15, .newarray .int, 2, 0, 0, 0, 0)],
  [(17, .putfield 15, 3, 4, 3, 4, 0), (20, .aload_n 0, 1, 0, 0, 0, 0), (21, .bipush 40, 2, 0, 0, 0, 0), (23, .newarray .int, 2, 0, 0, 0, 0), (25, .putfield 18, 3, 4, 4, 4, 0), (28, .aload_n 0, 1, 0, 0, 0, 0), (29, .bipush 40, 2, 0, 0, 0, 0), (31, .newarray .int, 2, 0, 0, 0, 0)],
  [(33, .putfield 21, 3, 4, 5, 4, 0), (36, .return_, 1, 0, 0, 0, 0)]]
/-- LostKeys$Sentence.<init>()V -/
def rx_m67 : rx_Md := (yX4_init, cX4_init, 1, none, 1, 2, 4, 160, rx_t67)
def rx_t68 : List (List rx_E) := [
  [(0, .iload_n 1, 1, 0, 0, 0, 0), (1, .bipush 60, 2, 0, 0, 0, 0), (3, .if_icmp .ne 16, 3, 0, 0, 0, 0), (6, .iload_n 0, 1, 0, 0, 0, 0), (7, .iload_n 2, 1, 0, 0, 0, 0), (8, .if_icmp .ge 7, 3, 0, 0, 0, 0), (11, .iconst 1, 1, 0, 0, 0, 0), (12, .goto 36, 3, 0, 0, 0, 0), (15, .iconst 0, 1, 0, 0, 0, 0)],
  [(16, .goto 32, 3, 0, 0, 0, 0), (19, .iload_n 1, 1, 0, 0, 0, 0), (20, .bipush 62, 2, 0, 0, 0, 0), (22, .if_icmp .ne 16, 3, 0, 0, 0, 0), (25, .iload_n 0, 1, 0, 0, 0, 0), (26, .iload_n 2, 1, 0, 0, 0, 0), (27, .if_icmp .le 7, 3, 0, 0, 0, 0), (30, .iconst 1, 1, 0, 0, 0, 0), (31, .goto 17, 3, 0, 0, 0, 0)],
  [(34, .iconst 0, 1, 0, 0, 0, 0), (35, .goto 13, 3, 0, 0, 0, 0), (38, .iload_n 0, 1, 0, 0, 0, 0), (39, .iload_n 2, 1, 0, 0, 0, 0), (40, .if_icmp .ne 7, 3, 0, 0, 0, 0), (43, .iconst 1, 1, 0, 0, 0, 0), (44, .goto 4, 3, 0, 0, 0, 0), (47, .iconst 0, 1, 0, 0, 0, 0)],
  [(48, .ireturn, 1, 0, 0, 0, 0)]]
/-- LostKeys$Sentence.compares(III)Z -/
def rx_m68 : rx_Md := (yX4_compares, cX4_compares, 3, (some .boolean), 3, 0, 0, 0, rx_t68)
def rx_t69 : List (List rx_E) := [
  [(0, .aload_n 0, 1, 0, 0, 0, 0), (1, .aload_n 1, 1, 0, 0, 0, 0), (2, .getfield 24, 3, 4, 0, 0, 0), (5, .putfield 24, 3, 4, 0, 0, 0), (8, .aload_n 0, 1, 0, 0, 0, 0), (9, .aload_n 1, 1, 0, 0, 0, 0), (10, .getfield 28, 3, 4, 1, 0, 0), (13, .putfield 28, 3, 4, 1, 0, 0)],
  [(16, .aload_n 1, 1, 0, 0, 0, 0), (17, .getfield 9, 3, 4, 2, 4, 0), (20, .iconst 0, 1, 0, 0, 0, 0), (21, .aload_n 0, 1, 0, 0, 0, 0), (22, .getfield 9, 3, 4, 2, 4, 0), (25, .iconst 0, 1, 0, 0, 0, 0), (26, .bipush 40, 2, 0, 0, 0, 0), (28, .invokestatic 31, 3, 0, 5, 2, 0), (31, .aload_n 1, 1, 0, 0, 0, 0)],
  [(32, .getfield 15, 3, 4, 3, 4, 0), (35, .iconst 0, 1, 0, 0, 0, 0), (36, .aload_n 0, 1, 0, 0, 0, 0), (37, .getfield 15, 3, 4, 3, 4, 0), (40, .iconst 0, 1, 0, 0, 0, 0), (41, .bipush 40, 2, 0, 0, 0, 0), (43, .invokestatic 31, 3, 0, 5, 2, 0), (46, .aload_n 1, 1, 0, 0, 0, 0), (47, .getfield 18, 3, 4, 4, 4, 0)],
  [(50, .iconst 0, 1, 0, 0, 0, 0), (51, .aload_n 0, 1, 0, 0, 0, 0), (52, .getfield 18, 3, 4, 4, 4, 0), (55, .iconst 0, 1, 0, 0, 0, 0), (56, .bipush 40, 2, 0, 0, 0, 0), (58, .invokestatic 31, 3, 0, 5, 2, 0), (61, .return_, 1, 0, 0, 0, 0)]]
/-- LostKeys$Sentence.copy(LLostKeys$Sentence;)V -/
def rx_m69 : rx_Md := (yX4_copy, cX4_copy, 2, none, 2, 1, 0, 0, rx_t69)
def rx_t70 : List (List rx_E) := [
  [(0, .aload_n 0, 1, 0, 0, 0, 0), (1, .getfield 18, 3, 4, 4, 4, 0), (4, .iload_n 3, 1, 0, 0, 0, 0), (5, .iaload, 1, 0, 0, 0, 0), (6, .istore 5, 2, 0, 0, 0, 0), (8, .aload_n 0, 1, 0, 0, 0, 0), (9, .getfield 9, 3, 4, 2, 4, 0), (12, .iload_n 3, 1, 0, 0, 0, 0), (13, .iaload, 1, 0, 0, 0, 0), (14, .tableswitch 211 15 22 #[46, 63, 81, 99, 125, 154, 173, 192], 46, 0, 0, 0, 0)],
  [],
  [],
  [(60, .aload_n 2, 1, 0, 0, 0, 0), (61, .getfield 106, 3, 5, 6, 4, 0)],
  [(64, .iload 4, 2, 0, 0, 0, 0), (66, .iaload, 1, 0, 0, 0, 0), (67, .iconst (-1), 1, 0, 0, 0, 0), (68, .if_icmp .ne 7, 3, 0, 0, 0, 0), (71, .iconst 1, 1, 0, 0, 0, 0), (72, .goto 4, 3, 0, 0, 0, 0), (75, .iconst 0, 1, 0, 0, 0, 0), (76, .ireturn, 1, 0, 0, 0, 0), (77, .aload_n 1, 1, 0, 0, 0, 0), (78, .getfield 111, 3, 8, 15, 4, 0)],
  [(81, .iload 4, 2, 0, 0, 0, 0), (83, .iaload, 1, 0, 0, 0, 0), (84, .iload 5, 2, 0, 0, 0, 0), (86, .if_icmp .ne 7, 3, 0, 0, 0, 0), (89, .iconst 1, 1, 0, 0, 0, 0), (90, .goto 4, 3, 0, 0, 0, 0), (93, .iconst 0, 1, 0, 0, 0, 0), (94, .ireturn, 1, 0, 0, 0, 0), (95, .aload_n 2, 1, 0, 0, 0, 0)],
  [(96, .getfield 106, 3, 5, 6, 4, 0), (99, .iload 4, 2, 0, 0, 0, 0), (101, .iaload, 1, 0, 0, 0, 0), (102, .iload 5, 2, 0, 0, 0, 0), (104, .if_icmp .ne 7, 3, 0, 0, 0, 0), (107, .iconst 1, 1, 0, 0, 0, 0), (108, .goto 4, 3, 0, 0, 0, 0), (111, .iconst 0, 1, 0, 0, 0, 0)],
  [(112, .ireturn, 1, 0, 0, 0, 0), (113, .aload_n 1, 1, 0, 0, 0, 0), (114, .aload_n 2, 1, 0, 0, 0, 0), (115, .getfield 114, 3, 5, 9, 4, 0), (118, .iload 4, 2, 0, 0, 0, 0), (120, .iaload, 1, 0, 0, 0, 0), (121, .invokevirtual 117, 3, 127, 2, 12, 0), (124, .iload 5, 2, 0, 0, 0, 0), (126, .ishr, 1, 0, 0, 0, 0), (127, .iconst 1, 1, 0, 0, 0, 0)],
  [(128, .iand, 1, 0, 0, 0, 0), (129, .iconst 1, 1, 0, 0, 0, 0), (130, .if_icmp .ne 7, 3, 0, 0, 0, 0), (133, .iconst 1, 1, 0, 0, 0, 0), (134, .goto 4, 3, 0, 0, 0, 0), (137, .iconst 0, 1, 0, 0, 0, 0), (138, .ireturn, 1, 0, 0, 0, 0), (139, .aload_n 1, 1, 0, 0, 0, 0), (140, .aload_n 2, 1, 0, 0, 0, 0), (141, .getfield 121, 3, 5, 7, 4, 0)],
  [(144, .iload 4, 2, 0, 0, 0, 0), (146, .iaload, 1, 0, 0, 0, 0), (147, .aload_n 2, 1, 0, 0, 0, 0), (148, .getfield 124, 3, 5, 8, 4, 0), (151, .iload 4, 2, 0, 0, 0, 0), (153, .iaload, 1, 0, 0, 0, 0), (154, .invokevirtual 127, 3, 128, 3, 12, 0), (157, .iload 5, 2, 0, 0, 0, 0), (159, .if_icmp .ne 7, 3, 0, 0, 0, 0)],
  [(162, .iconst 1, 1, 0, 0, 0, 0), (163, .goto 4, 3, 0, 0, 0, 0), (166, .iconst 0, 1, 0, 0, 0, 0), (167, .ireturn, 1, 0, 0, 0, 0), (168, .aload_n 2, 1, 0, 0, 0, 0), (169, .getfield 114, 3, 5, 9, 4, 0), (172, .iload 4, 2, 0, 0, 0, 0), (174, .iaload, 1, 0, 0, 0, 0), (175, .aload_n 0, 1, 0, 0, 0, 0)],
  [(176, .getfield 15, 3, 4, 3, 4, 0), (179, .iload_n 3, 1, 0, 0, 0, 0), (180, .iaload, 1, 0, 0, 0, 0), (181, .iload 5, 2, 0, 0, 0, 0), (183, .invokestatic 131, 3, 68, 3, 0, 0), (186, .ireturn, 1, 0, 0, 0, 0), (187, .aload_n 2, 1, 0, 0, 0, 0), (188, .getfield 134, 3, 5, 10, 4, 0), (191, .iload 4, 2, 0, 0, 0, 0)],
  [(193, .iaload, 1, 0, 0, 0, 0), (194, .aload_n 0, 1, 0, 0, 0, 0), (195, .getfield 15, 3, 4, 3, 4, 0), (198, .iload_n 3, 1, 0, 0, 0, 0), (199, .iaload, 1, 0, 0, 0, 0), (200, .iload 5, 2, 0, 0, 0, 0), (202, .invokestatic 131, 3, 68, 3, 0, 0), (205, .ireturn, 1, 0, 0, 0, 0), (206, .aload_n 2, 1, 0, 0, 0, 0), (207, .getfield 137, 3, 5, 11, 4, 0)],
  [(210, .iload 4, 2, 0, 0, 0, 0), (212, .iaload, 1, 0, 0, 0, 0), (213, .aload_n 0, 1, 0, 0, 0, 0), (214, .getfield 15, 3, 4, 3, 4, 0), (217, .iload_n 3, 1, 0, 0, 0, 0), (218, .iaload, 1, 0, 0, 0, 0), (219, .iload 5, 2, 0, 0, 0, 0), (221, .invokestatic 131, 3, 68, 3, 0, 0)],
  [(224, .ireturn, 1, 0, 0, 0, 0), (225, .iload 4, 2, 0, 0, 0, 0), (227, .aload_n 0, 1, 0, 0, 0, 0), (228, .getfield 15, 3, 4, 3, 4, 0), (231, .iload_n 3, 1, 0, 0, 0, 0), (232, .iaload, 1, 0, 0, 0, 0), (233, .iload 5, 2, 0, 0, 0, 0), (235, .invokestatic 131, 3, 68, 3, 0, 0), (238, .ireturn, 1, 0, 0, 0, 0)]]
/-- LostKeys$Sentence.holds(LLostKeys$Town;LLostKeys$State;II)Z -/
def rx_m70 : rx_Md := (yX4_holds, cX4_holds, 6, (some .boolean), 5, 1, 0, 0, rx_t70)
def rx_t71 : List (List rx_E) := [
  [(0, .iconst 1, 1, 0, 0, 0, 0), (1, .aload_n 1, 1, 0, 0, 0, 0), (2, .getfield 93, 3, 8, 5, 4, 0), (5, .iconst 3, 1, 0, 0, 0, 0), (6, .iaload, 1, 0, 0, 0, 0), (7, .ishl, 1, 0, 0, 0, 0), (8, .iconst 1, 1, 0, 0, 0, 0), (9, .isub, 1, 0, 0, 0, 0), (10, .istore_n 3, 1, 0, 0, 0, 0), (11, .iconst 0, 1, 0, 0, 0, 0), (12, .istore 4, 2, 0, 0, 0, 0), (14, .iconst 0, 1, 0, 0, 0, 0), (15, .istore 5, 2, 0, 0, 0, 0)],
  [(17, .iload 5, 2, 0, 0, 0, 0), (19, .aload_n 0, 1, 0, 0, 0, 0), (20, .getfield 28, 3, 4, 1, 0, 0), (23, .if_icmp .ge 154, 3, 0, 0, 0, 0), (26, .aload_n 0, 1, 0, 0, 0, 0), (27, .getfield 9, 3, 4, 2, 4, 0), (30, .iload 5, 2, 0, 0, 0, 0)],
  [(32, .iaload, 1, 0, 0, 0, 0), (33, .bipush 14, 2, 0, 0, 0, 0), (35, .if_icmp .ne 25, 3, 0, 0, 0, 0), (38, .iload 4, 2, 0, 0, 0, 0), (40, .iconst 1, 1, 0, 0, 0, 0), (41, .if_icmp .lt 19, 3, 0, 0, 0, 0), (44, .aload_n 0, 1, 0, 0, 0, 0), (45, .getfield 21, 3, 4, 5, 4, 0)],
  [(48, .iload 4, 2, 0, 0, 0, 0), (50, .iconst 1, 1, 0, 0, 0, 0), (51, .isub, 1, 0, 0, 0, 0), (52, .dup2, 1, 0, 0, 0, 0), (53, .iaload, 1, 0, 0, 0, 0), (54, .iload_n 3, 1, 0, 0, 0, 0), (55, .ixor, 1, 0, 0, 0, 0), (56, .iastore, 1, 0, 0, 0, 0), (57, .goto 114, 3, 0, 0, 0, 0), (60, .aload_n 0, 1, 0, 0, 0, 0), (61, .getfield 9, 3, 4, 2, 4, 0)],
  [(64, .iload 5, 2, 0, 0, 0, 0), (66, .iaload, 1, 0, 0, 0, 0), (67, .bipush 13, 2, 0, 0, 0, 0), (69, .if_icmp .ne 34, 3, 0, 0, 0, 0), (72, .iload 4, 2, 0, 0, 0, 0), (74, .iconst 2, 1, 0, 0, 0, 0), (75, .if_icmp .lt 28, 3, 0, 0, 0, 0), (78, .iinc 4 (-1), 3, 0, 0, 0, 0)],
  [(81, .aload_n 0, 1, 0, 0, 0, 0), (82, .getfield 21, 3, 4, 5, 4, 0), (85, .iload 4, 2, 0, 0, 0, 0), (87, .iconst 1, 1, 0, 0, 0, 0), (88, .isub, 1, 0, 0, 0, 0), (89, .dup2, 1, 0, 0, 0, 0), (90, .iaload, 1, 0, 0, 0, 0), (91, .aload_n 0, 1, 0, 0, 0, 0), (92, .getfield 21, 3, 4, 5, 4, 0), (95, .iload 4, 2, 0, 0, 0, 0)],
  [(97, .iaload, 1, 0, 0, 0, 0), (98, .iand, 1, 0, 0, 0, 0), (99, .iastore, 1, 0, 0, 0, 0), (100, .goto 71, 3, 0, 0, 0, 0), (103, .aload_n 0, 1, 0, 0, 0, 0), (104, .getfield 9, 3, 4, 2, 4, 0), (107, .iload 5, 2, 0, 0, 0, 0), (109, .iaload, 1, 0, 0, 0, 0), (110, .bipush 12, 2, 0, 0, 0, 0)],
  [(112, .if_icmp .ne 34, 3, 0, 0, 0, 0), (115, .iload 4, 2, 0, 0, 0, 0), (117, .iconst 2, 1, 0, 0, 0, 0), (118, .if_icmp .lt 28, 3, 0, 0, 0, 0), (121, .iinc 4 (-1), 3, 0, 0, 0, 0), (124, .aload_n 0, 1, 0, 0, 0, 0), (125, .getfield 21, 3, 4, 5, 4, 0)],
  [(128, .iload 4, 2, 0, 0, 0, 0), (130, .iconst 1, 1, 0, 0, 0, 0), (131, .isub, 1, 0, 0, 0, 0), (132, .dup2, 1, 0, 0, 0, 0), (133, .iaload, 1, 0, 0, 0, 0), (134, .aload_n 0, 1, 0, 0, 0, 0), (135, .getfield 21, 3, 4, 5, 4, 0), (138, .iload 4, 2, 0, 0, 0, 0), (140, .iaload, 1, 0, 0, 0, 0), (141, .ior, 1, 0, 0, 0, 0), (142, .iastore, 1, 0, 0, 0, 0), (143, .goto 28, 3, 0, 0, 0, 0)],
  [(146, .iload 4, 2, 0, 0, 0, 0), (148, .bipush 40, 2, 0, 0, 0, 0), (150, .if_icmp .ge 21, 3, 0, 0, 0, 0), (153, .aload_n 0, 1, 0, 0, 0, 0), (154, .getfield 21, 3, 4, 5, 4, 0), (157, .iload 4, 2, 0, 0, 0, 0), (159, .aload_n 0, 1, 0, 0, 0, 0)],
  [(160, .aload_n 1, 1, 0, 0, 0, 0), (161, .aload_n 2, 1, 0, 0, 0, 0), (162, .iload 5, 2, 0, 0, 0, 0), (164, .invokevirtual 98, 3, 72, 4, 8, 0), (167, .iastore, 1, 0, 0, 0, 0), (168, .iinc 4 1, 3, 0, 0, 0, 0), (171, .iinc 5 1, 3, 0, 0, 0, 0), (174, .goto (-157), 3, 0, 0, 0, 0)],
  [(177, .iload 4, 2, 0, 0, 0, 0), (179, .iconst 1, 1, 0, 0, 0, 0), (180, .if_icmp .ge 7, 3, 0, 0, 0, 0), (183, .iconst 0, 1, 0, 0, 0, 0), (184, .goto 9, 3, 0, 0, 0, 0), (187, .aload_n 0, 1, 0, 0, 0, 0), (188, .getfield 21, 3, 4, 5, 4, 0), (191, .iconst 0, 1, 0, 0, 0, 0)],
  [(192, .iaload, 1, 0, 0, 0, 0), (193, .ireturn, 1, 0, 0, 0, 0)]]
/-- LostKeys$Sentence.keysMeant(LLostKeys$Town;LLostKeys$State;)I -/
def rx_m71 : rx_Md := (yX4_keysMeant, cX4_keysMeant, 6, (some .int), 3, 1, 0, 0, rx_t71)
def rx_t72 : List (List rx_E) := [
  [(0, .iconst 0, 1, 0, 0, 0, 0), (1, .istore 4, 2, 0, 0, 0, 0), (3, .iconst 0, 1, 0, 0, 0, 0), (4, .istore 5, 2, 0, 0, 0, 0), (6, .iload 5, 2, 0, 0, 0, 0), (8, .aload_n 1, 1, 0, 0, 0, 0), (9, .getfield 93, 3, 8, 5, 4, 0), (12, .iconst 3, 1, 0, 0, 0, 0), (13, .iaload, 1, 0, 0, 0, 0), (14, .if_icmp .ge 30, 3, 0, 0, 0, 0)],
  [(17, .aload_n 0, 1, 0, 0, 0, 0), (18, .aload_n 1, 1, 0, 0, 0, 0), (19, .aload_n 2, 1, 0, 0, 0, 0), (20, .iload_n 3, 1, 0, 0, 0, 0), (21, .iload 5, 2, 0, 0, 0, 0), (23, .invokevirtual 102, 3, 70, 5, 8, 0), (26, .ifCond .eq 12, 3, 0, 0, 0, 0), (29, .iload 4, 2, 0, 0, 0, 0), (31, .iconst 1, 1, 0, 0, 0, 0)],
  [(32, .iload 5, 2, 0, 0, 0, 0), (34, .ishl, 1, 0, 0, 0, 0), (35, .ior, 1, 0, 0, 0, 0), (36, .istore 4, 2, 0, 0, 0, 0), (38, .iinc 5 1, 3, 0, 0, 0, 0), (41, .goto (-35), 3, 0, 0, 0, 0), (44, .iload 4, 2, 0, 0, 0, 0), (46, .ireturn, 1, 0, 0, 0, 0)]]
/-- LostKeys$Sentence.keysOfStep(LLostKeys$Town;LLostKeys$State;I)I -/
def rx_m72 : rx_Md := (yX4_keysOfStep, cX4_keysOfStep, 6, (some .int), 4, 1, 0, 0, rx_t72)
def rx_t73 : List (List rx_E) := [
  [(0, .aload_n 0, 1, 0, 0, 0, 0), (1, .getfield 28, 3, 4, 1, 0, 0), (4, .bipush 40, 2, 0, 0, 0, 0), (6, .if_icmp .ge 43, 3, 0, 0, 0, 0), (9, .aload_n 0, 1, 0, 0, 0, 0), (10, .getfield 9, 3, 4, 2, 4, 0), (13, .aload_n 0, 1, 0, 0, 0, 0), (14, .getfield 28, 3, 4, 1, 0, 0)],
  [(17, .iload_n 1, 1, 0, 0, 0, 0), (18, .iastore, 1, 0, 0, 0, 0), (19, .aload_n 0, 1, 0, 0, 0, 0), (20, .getfield 15, 3, 4, 3, 4, 0), (23, .aload_n 0, 1, 0, 0, 0, 0), (24, .getfield 28, 3, 4, 1, 0, 0), (27, .iload_n 2, 1, 0, 0, 0, 0), (28, .iastore, 1, 0, 0, 0, 0), (29, .aload_n 0, 1, 0, 0, 0, 0), (30, .getfield 18, 3, 4, 4, 4, 0)],
  [(33, .aload_n 0, 1, 0, 0, 0, 0), (34, .getfield 28, 3, 4, 1, 0, 0), (37, .iload_n 3, 1, 0, 0, 0, 0), (38, .iastore, 1, 0, 0, 0, 0), (39, .aload_n 0, 1, 0, 0, 0, 0), (40, .dup, 1, 0, 0, 0, 0), (41, .getfield 28, 3, 4, 1, 0, 0), (44, .iconst 1, 1, 0, 0, 0, 0), (45, .iadd, 1, 0, 0, 0, 0), (46, .putfield 28, 3, 4, 1, 0, 0)],
  [(49, .iconst 1, 1, 0, 0, 0, 0), (50, .ireturn, 1, 0, 0, 0, 0)]]
/-- LostKeys$Sentence.put(III)Z -/
def rx_m73 : rx_Md := (yX4_put, cX4_put, 4, (some .boolean), 4, 1, 0, 0, rx_t73)
def rx_t74 : List (List rx_E) := [
  [(0, .aload_n 0, 1, 0, 0, 0, 0), (1, .iconst 0, 1, 0, 0, 0, 0), (2, .putfield 24, 3, 4, 0, 0, 0), (5, .aload_n 0, 1, 0, 0, 0, 0), (6, .iconst 0, 1, 0, 0, 0, 0), (7, .putfield 28, 3, 4, 1, 0, 0), (10, .aload_n 1, 1, 0, 0, 0, 0), (11, .sipush 200, 3, 0, 0, 0, 0), (14, .invokevirtual 37, 3, 106, 2, 11, 0)],
  [(17, .aload_n 0, 1, 0, 0, 0, 0), (18, .aload_n 1, 1, 0, 0, 0, 0), (19, .aload_n 2, 1, 0, 0, 0, 0), (20, .iconst 1, 1, 0, 0, 0, 0), (21, .invokevirtual 43, 3, 76, 4, 8, 0), (24, .ifCond .eq 22, 3, 0, 0, 0, 0), (27, .aload_n 1, 1, 0, 0, 0, 0), (28, .invokevirtual 47, 3, 104, 1, 11, 0), (31, .ifCond .ne 11, 3, 0, 0, 0, 0)],
  [(34, .aload_n 1, 1, 0, 0, 0, 0), (35, .iconst 1, 1, 0, 0, 0, 0), (36, .invokevirtual 51, 3, 113, 2, 11, 0), (39, .ifCond .eq 7, 3, 0, 0, 0, 0), (42, .iconst 1, 1, 0, 0, 0, 0), (43, .goto 4, 3, 0, 0, 0, 0), (46, .iconst 0, 1, 0, 0, 0, 0), (47, .ireturn, 1, 0, 0, 0, 0)]]
/-- LostKeys$Sentence.read(LLostKeys$Tape;LLostKeys$Town;)Z -/
def rx_m74 : rx_Md := (yX4_read, cX4_read, 3, (some .boolean), 3, 1, 0, 0, rx_t74)
def rx_t75 : List (List rx_E) := [
  [(0, .aload_n 0, 1, 0, 0, 0, 0), (1, .aload_n 1, 1, 0, 0, 0, 0), (2, .aload_n 2, 1, 0, 0, 0, 0), (3, .iload_n 3, 1, 0, 0, 0, 0), (4, .invokevirtual 68, 3, 77, 4, 8, 0), (7, .ifCond .ne 5, 3, 0, 0, 0, 0), (10, .iconst 0, 1, 0, 0, 0, 0), (11, .ireturn, 1, 0, 0, 0, 0), (12, .iconst 0, 1, 0, 0, 0, 0), (13, .istore 4, 2, 0, 0, 0, 0), (15, .iload 4, 2, 0, 0, 0, 0)],
  [(17, .bipush 20, 2, 0, 0, 0, 0), (19, .if_icmp .ge 43, 3, 0, 0, 0, 0), (22, .aload_n 1, 1, 0, 0, 0, 0), (23, .getfield 58, 3, 7, 8, 0, 0), (26, .bipush 13, 2, 0, 0, 0, 0), (28, .if_icmp .ne 34, 3, 0, 0, 0, 0), (31, .aload_n 1, 1, 0, 0, 0, 0)],
  [(32, .invokevirtual 61, 3, 108, 1, 11, 0), (35, .aload_n 0, 1, 0, 0, 0, 0), (36, .aload_n 1, 1, 0, 0, 0, 0), (37, .aload_n 2, 1, 0, 0, 0, 0), (38, .iload_n 3, 1, 0, 0, 0, 0), (39, .invokevirtual 68, 3, 77, 4, 8, 0), (42, .ifCond .ne 5, 3, 0, 0, 0, 0), (45, .iconst 0, 1, 0, 0, 0, 0), (46, .ireturn, 1, 0, 0, 0, 0), (47, .aload_n 0, 1, 0, 0, 0, 0)],
  [(48, .bipush 13, 2, 0, 0, 0, 0), (50, .iconst (-1), 1, 0, 0, 0, 0), (51, .iconst (-1), 1, 0, 0, 0, 0), (52, .invokevirtual 64, 3, 73, 4, 8, 0), (55, .pop, 1, 0, 0, 0, 0), (56, .iinc 4 1, 3, 0, 0, 0, 0), (59, .goto (-44), 3, 0, 0, 0, 0), (62, .iconst 1, 1, 0, 0, 0, 0), (63, .ireturn, 1, 0, 0, 0, 0)]]
/-- LostKeys$Sentence.readAll(LLostKeys$Tape;LLostKeys$Town;I)Z -/
def rx_m75 : rx_Md := (yX4_readAll, cX4_readAll, 5, (some .boolean), 4, 1, 0, 0, rx_t75)
def rx_t76 : List (List rx_E) := [
  [(0, .aload_n 0, 1, 0, 0, 0, 0), (1, .aload_n 1, 1, 0, 0, 0, 0), (2, .aload_n 2, 1, 0, 0, 0, 0), (3, .iload_n 3, 1, 0, 0, 0, 0), (4, .invokevirtual 55, 3, 75, 4, 8, 0), (7, .ifCond .ne 5, 3, 0, 0, 0, 0), (10, .iconst 0, 1, 0, 0, 0, 0), (11, .ireturn, 1, 0, 0, 0, 0), (12, .iconst 0, 1, 0, 0, 0, 0), (13, .istore 4, 2, 0, 0, 0, 0), (15, .iload 4, 2, 0, 0, 0, 0)],
  [(17, .bipush 20, 2, 0, 0, 0, 0), (19, .if_icmp .ge 43, 3, 0, 0, 0, 0), (22, .aload_n 1, 1, 0, 0, 0, 0), (23, .getfield 58, 3, 7, 8, 0, 0), (26, .bipush 12, 2, 0, 0, 0, 0), (28, .if_icmp .ne 34, 3, 0, 0, 0, 0), (31, .aload_n 1, 1, 0, 0, 0, 0)],
  [(32, .invokevirtual 61, 3, 108, 1, 11, 0), (35, .aload_n 0, 1, 0, 0, 0, 0), (36, .aload_n 1, 1, 0, 0, 0, 0), (37, .aload_n 2, 1, 0, 0, 0, 0), (38, .iload_n 3, 1, 0, 0, 0, 0), (39, .invokevirtual 55, 3, 75, 4, 8, 0), (42, .ifCond .ne 5, 3, 0, 0, 0, 0), (45, .iconst 0, 1, 0, 0, 0, 0), (46, .ireturn, 1, 0, 0, 0, 0), (47, .aload_n 0, 1, 0, 0, 0, 0)],
  [(48, .bipush 12, 2, 0, 0, 0, 0), (50, .iconst (-1), 1, 0, 0, 0, 0), (51, .iconst (-1), 1, 0, 0, 0, 0), (52, .invokevirtual 64, 3, 73, 4, 8, 0), (55, .pop, 1, 0, 0, 0, 0), (56, .iinc 4 1, 3, 0, 0, 0, 0), (59, .goto (-44), 3, 0, 0, 0, 0), (62, .iconst 1, 1, 0, 0, 0, 0), (63, .ireturn, 1, 0, 0, 0, 0)]]
/-- LostKeys$Sentence.readCond(LLostKeys$Tape;LLostKeys$Town;I)Z -/
def rx_m76 : rx_Md := (yX4_readCond, cX4_readCond, 5, (some .boolean), 4, 1, 0, 0, rx_t76)
def rx_t77 : List (List rx_E) := [
  [(0, .aload_n 1, 1, 0, 0, 0, 0), (1, .getfield 58, 3, 7, 8, 0, 0), (4, .istore 4, 2, 0, 0, 0, 0), (6, .aload_n 1, 1, 0, 0, 0, 0), (7, .getfield 71, 3, 7, 9, 0, 0), (10, .bipush 40, 2, 0, 0, 0, 0), (12, .if_icmp .ne 7, 3, 0, 0, 0, 0), (15, .iconst 1, 1, 0, 0, 0, 0)],
  [(16, .goto 4, 3, 0, 0, 0, 0), (19, .iconst 0, 1, 0, 0, 0, 0), (20, .istore 5, 2, 0, 0, 0, 0), (22, .iload 5, 2, 0, 0, 0, 0), (24, .ifCond .ne 23, 3, 0, 0, 0, 0), (27, .iload 4, 2, 0, 0, 0, 0), (29, .bipush 14, 2, 0, 0, 0, 0), (31, .if_icmp .lt 10, 3, 0, 0, 0, 0)],
  [(34, .iload 4, 2, 0, 0, 0, 0), (36, .bipush 23, 2, 0, 0, 0, 0), (38, .if_icmp .le 9, 3, 0, 0, 0, 0), (41, .aload_n 1, 1, 0, 0, 0, 0), (42, .iconst 1, 1, 0, 0, 0, 0), (43, .invokevirtual 51, 3, 113, 2, 11, 0), (46, .ireturn, 1, 0, 0, 0, 0), (47, .aload_n 0, 1, 0, 0, 0, 0)],
  [(48, .getfield 24, 3, 4, 0, 0, 0), (51, .bipush 20, 2, 0, 0, 0, 0), (53, .if_icmp .ge 9, 3, 0, 0, 0, 0), (56, .iload_n 3, 1, 0, 0, 0, 0), (57, .bipush 8, 2, 0, 0, 0, 0), (59, .if_icmp .le 9, 3, 0, 0, 0, 0), (62, .aload_n 1, 1, 0, 0, 0, 0), (63, .iconst 4, 1, 0, 0, 0, 0)],
  [(64, .invokevirtual 51, 3, 113, 2, 11, 0), (67, .ireturn, 1, 0, 0, 0, 0), (68, .aload_n 0, 1, 0, 0, 0, 0), (69, .dup, 1, 0, 0, 0, 0), (70, .getfield 24, 3, 4, 0, 0, 0), (73, .iconst 1, 1, 0, 0, 0, 0), (74, .iadd, 1, 0, 0, 0, 0), (75, .putfield 24, 3, 4, 0, 0, 0), (78, .aload_n 1, 1, 0, 0, 0, 0), (79, .invokevirtual 61, 3, 108, 1, 11, 0)],
  [(82, .iload 5, 2, 0, 0, 0, 0), (84, .ifCond .eq 30, 3, 0, 0, 0, 0), (87, .aload_n 0, 1, 0, 0, 0, 0), (88, .aload_n 1, 1, 0, 0, 0, 0), (89, .aload_n 2, 1, 0, 0, 0, 0), (90, .iload_n 3, 1, 0, 0, 0, 0), (91, .iconst 1, 1, 0, 0, 0, 0), (92, .iadd, 1, 0, 0, 0, 0), (93, .invokevirtual 43, 3, 76, 4, 8, 0)],
  [(96, .ifCond .eq 16, 3, 0, 0, 0, 0), (99, .aload_n 1, 1, 0, 0, 0, 0), (100, .bipush 41, 2, 0, 0, 0, 0), (102, .invokevirtual 73, 3, 117, 2, 11, 0), (105, .ifCond .eq 7, 3, 0, 0, 0, 0), (108, .iconst 1, 1, 0, 0, 0, 0), (109, .goto 4, 3, 0, 0, 0, 0)],
  [(112, .iconst 0, 1, 0, 0, 0, 0), (113, .ireturn, 1, 0, 0, 0, 0), (114, .iload 4, 2, 0, 0, 0, 0), (116, .tableswitch 138 14 19 #[40, 69, 78, 78, 108, 108], 40, 0, 0, 0, 0)],
  [],
  [(156, .aload_n 0, 1, 0, 0, 0, 0), (157, .aload_n 1, 1, 0, 0, 0, 0), (158, .aload_n 2, 1, 0, 0, 0, 0), (159, .iload_n 3, 1, 0, 0, 0, 0)],
  [(160, .iconst 1, 1, 0, 0, 0, 0), (161, .iadd, 1, 0, 0, 0, 0), (162, .invokevirtual 68, 3, 77, 4, 8, 0), (165, .ifCond .eq 18, 3, 0, 0, 0, 0), (168, .aload_n 0, 1, 0, 0, 0, 0), (169, .bipush 14, 2, 0, 0, 0, 0), (171, .iconst (-1), 1, 0, 0, 0, 0), (172, .iconst (-1), 1, 0, 0, 0, 0), (173, .invokevirtual 64, 3, 73, 4, 8, 0)],
  [(176, .ifCond .eq 7, 3, 0, 0, 0, 0), (179, .iconst 1, 1, 0, 0, 0, 0), (180, .goto 4, 3, 0, 0, 0, 0), (183, .iconst 0, 1, 0, 0, 0, 0), (184, .ireturn, 1, 0, 0, 0, 0), (185, .aload_n 0, 1, 0, 0, 0, 0), (186, .bipush 15, 2, 0, 0, 0, 0), (188, .iconst (-1), 1, 0, 0, 0, 0), (189, .iconst (-1), 1, 0, 0, 0, 0), (190, .invokevirtual 64, 3, 73, 4, 8, 0)],
  [(193, .ireturn, 1, 0, 0, 0, 0), (194, .aload_n 1, 1, 0, 0, 0, 0), (195, .aload_n 2, 1, 0, 0, 0, 0), (196, .iconst 2, 1, 0, 0, 0, 0), (197, .iconst (-1), 1, 0, 0, 0, 0), (198, .invokevirtual 76, 3, 118, 4, 11, 0), (201, .ifCond .eq 21, 3, 0, 0, 0, 0), (204, .aload_n 0, 1, 0, 0, 0, 0), (205, .iload 4, 2, 0, 0, 0, 0), (207, .iconst (-1), 1, 0, 0, 0, 0)],
  [(208, .aload_n 1, 1, 0, 0, 0, 0), (209, .getfield 80, 3, 7, 11, 0, 0), (212, .invokevirtual 64, 3, 73, 4, 8, 0), (215, .ifCond .eq 7, 3, 0, 0, 0, 0), (218, .iconst 1, 1, 0, 0, 0, 0), (219, .goto 4, 3, 0, 0, 0, 0), (222, .iconst 0, 1, 0, 0, 0, 0), (223, .ireturn, 1, 0, 0, 0, 0)],
  [(224, .aload_n 1, 1, 0, 0, 0, 0), (225, .aload_n 2, 1, 0, 0, 0, 0), (226, .iconst 1, 1, 0, 0, 0, 0), (227, .iconst (-1), 1, 0, 0, 0, 0), (228, .invokevirtual 76, 3, 118, 4, 11, 0), (231, .ifCond .eq 21, 3, 0, 0, 0, 0), (234, .aload_n 0, 1, 0, 0, 0, 0), (235, .iload 4, 2, 0, 0, 0, 0), (237, .iconst (-1), 1, 0, 0, 0, 0), (238, .aload_n 1, 1, 0, 0, 0, 0), (239, .getfield 80, 3, 7, 11, 0, 0)],
  [(242, .invokevirtual 64, 3, 73, 4, 8, 0), (245, .ifCond .eq 7, 3, 0, 0, 0, 0), (248, .iconst 1, 1, 0, 0, 0, 0), (249, .goto 4, 3, 0, 0, 0, 0), (252, .iconst 0, 1, 0, 0, 0, 0), (253, .ireturn, 1, 0, 0, 0, 0), (254, .aload_n 1, 1, 0, 0, 0, 0), (255, .invokevirtual 83, 3, 114, 1, 11, 0)],
  [(258, .ifCond .eq 35, 3, 0, 0, 0, 0), (261, .aload_n 1, 1, 0, 0, 0, 0), (262, .iconst 0, 1, 0, 0, 0, 0), (263, .sipush 1000, 3, 0, 0, 0, 0), (266, .invokevirtual 86, 3, 116, 3, 11, 0), (269, .ifCond .eq 24, 3, 0, 0, 0, 0)],
  [(272, .aload_n 0, 1, 0, 0, 0, 0), (273, .iload 4, 2, 0, 0, 0, 0), (275, .aload_n 1, 1, 0, 0, 0, 0), (276, .getfield 90, 3, 7, 12, 0, 0), (279, .aload_n 1, 1, 0, 0, 0, 0), (280, .getfield 80, 3, 7, 11, 0, 0), (283, .invokevirtual 64, 3, 73, 4, 8, 0), (286, .ifCond .eq 7, 3, 0, 0, 0, 0)],
  [(289, .iconst 1, 1, 0, 0, 0, 0), (290, .goto 4, 3, 0, 0, 0, 0), (293, .iconst 0, 1, 0, 0, 0, 0), (294, .ireturn, 1, 0, 0, 0, 0)]]
/-- LostKeys$Sentence.readOne(LLostKeys$Tape;LLostKeys$Town;I)Z -/
def rx_m77 : rx_Md := (yX4_readOne, cX4_readOne, 6, (some .boolean), 4, 1, 0, 0, rx_t77)
def rx_t78 : List (List rx_E) := [
  [(0, .aload_n 0, 1, 0, 0, 0, 0), (1, .invokespecial 3, 3, 0, 1, 1, 0), (4, .aload_n 0, 1, 0, 0, 0, 0), (5, .iconst 5, 1, 0, 0, 0, 0), (6, .newarray .int, 2, 0, 0, 0, 0), (8, .putfield 9, 3, 5, 4, 4, 0), (11, .aload_n 0, 1, 0, 0, 0, 0), (12, .iconst 5, 1, 0, 0, 0, 0), (13, .newarray .int, 2, 0, 0, 0, 0), (15, .putfield 15, 3, 5, 5, 4, 0)],
  [(18, .aload_n 0, 1, 0, 0, 0, 0), (19, .bipush 8, 2, 0, 0, 0, 0), (21, .newarray .int, 2, 0, 0, 0, 0), (23, .putfield 18, 3, 5, 6, 4, 0), (26, .aload_n 0, 1, 0, 0, 0, 0), (27, .bipush 8, 2, 0, 0, 0, 0), (29, .newarray .int, 2, 0, 0, 0, 0), (31, .putfield 21, 3, 5, 7, 4, 0)],
  [(34, .aload_n 0, 1, 0, 0, 0, 0), (35, .bipush 8, 2, 0, 0, 0, 0), (37, .newarray .int, 2, 0, 0, 0, 0), (39, .putfield 24, 3, 5, 8, 4, 0), (42, .aload_n 0, 1, 0, 0, 0, 0), (43, .bipush 8, 2, 0, 0, 0, 0), (45, .newarray .int, 2, 0, 0, 0, 0), (47, .putfield 27, 3, 5, 9, 4, 0)],
  [(50, .aload_n 0, 1, 0, 0, 0, 0), (51, .bipush 8, 2, 0, 0, 0, 0), (53, .newarray .int, 2, 0, 0, 0, 0), (55, .putfield 30, 3, 5, 10, 4, 0), (58, .aload_n 0, 1, 0, 0, 0, 0), (59, .bipush 8, 2, 0, 0, 0, 0), (61, .newarray .int, 2, 0, 0, 0, 0), (63, .putfield 33, 3, 5, 11, 4, 0)],
  [(66, .return_, 1, 0, 0, 0, 0)]]
/-- LostKeys$State.<init>()V -/
def rx_m78 : rx_Md := (yX5_init, cX5_init, 1, none, 1, 2, 8, 58, rx_t78)
def rx_t79 : List (List rx_E) := [
  [(0, .aload_n 0, 1, 0, 0, 0, 0), (1, .aload_n 1, 1, 0, 0, 0, 0), (2, .iload_n 2, 1, 0, 0, 0, 0), (3, .iload_n 3, 1, 0, 0, 0, 0), (4, .iload 4, 2, 0, 0, 0, 0), (6, .iload 5, 2, 0, 0, 0, 0), (8, .invokevirtual 163, 3, 96, 6, 9, 0), (11, .ifCond .ne 14, 3, 0, 0, 0, 0), (14, .aload_n 0, 1, 0, 0, 0, 0), (15, .aload_n 1, 1, 0, 0, 0, 0)],
  [(16, .iload_n 2, 1, 0, 0, 0, 0), (17, .iload_n 3, 1, 0, 0, 0, 0), (18, .iload 4, 2, 0, 0, 0, 0), (20, .iload 5, 2, 0, 0, 0, 0), (22, .invokevirtual 167, 3, 95, 6, 9, 0), (25, .return_, 1, 0, 0, 0, 0)]]
/-- LostKeys$State.attempt(LLostKeys$Town;IIII)V -/
def rx_m79 : rx_Md := (yX5_attempt, cX5_attempt, 6, none, 6, 1, 0, 0, rx_t79)
def rx_t80 : List (List rx_E) := [
  [(0, .aload_n 0, 1, 0, 0, 0, 0), (1, .iconst 0, 1, 0, 0, 0, 0), (2, .putfield 36, 3, 5, 0, 0, 0), (5, .aload_n 0, 1, 0, 0, 0, 0), (6, .aload_n 1, 1, 0, 0, 0, 0), (7, .getfield 40, 3, 8, 12, 0, 0), (10, .putfield 45, 3, 5, 1, 0, 0), (13, .aload_n 0, 1, 0, 0, 0, 0), (14, .iconst 0, 1, 0, 0, 0, 0), (15, .putfield 48, 3, 5, 2, 0, 0)],
  [(18, .aload_n 0, 1, 0, 0, 0, 0), (19, .iconst 0, 1, 0, 0, 0, 0), (20, .putfield 51, 3, 5, 3, 0, 0), (23, .aload_n 1, 1, 0, 0, 0, 0), (24, .getfield 54, 3, 8, 13, 4, 0), (27, .iconst 0, 1, 0, 0, 0, 0), (28, .aload_n 0, 1, 0, 0, 0, 0), (29, .getfield 9, 3, 5, 4, 4, 0)],
  [(32, .iconst 0, 1, 0, 0, 0, 0), (33, .iconst 5, 1, 0, 0, 0, 0), (34, .invokestatic 55, 3, 0, 5, 2, 0), (37, .aload_n 1, 1, 0, 0, 0, 0), (38, .getfield 61, 3, 8, 14, 4, 0), (41, .iconst 0, 1, 0, 0, 0, 0), (42, .aload_n 0, 1, 0, 0, 0, 0), (43, .getfield 15, 3, 5, 5, 4, 0), (46, .iconst 0, 1, 0, 0, 0, 0), (47, .iconst 5, 1, 0, 0, 0, 0)],
  [(48, .invokestatic 55, 3, 0, 5, 2, 0), (51, .iconst 0, 1, 0, 0, 0, 0), (52, .istore_n 2, 1, 0, 0, 0, 0), (53, .iload_n 2, 1, 0, 0, 0, 0), (54, .aload_n 1, 1, 0, 0, 0, 0), (55, .getfield 62, 3, 8, 5, 4, 0), (58, .iconst 3, 1, 0, 0, 0, 0), (59, .iaload, 1, 0, 0, 0, 0), (60, .if_icmp .ge 73, 3, 0, 0, 0, 0), (63, .aload_n 1, 1, 0, 0, 0, 0)],
  [(64, .getfield 65, 3, 8, 15, 4, 0), (67, .iload_n 2, 1, 0, 0, 0, 0), (68, .iaload, 1, 0, 0, 0, 0), (69, .istore_n 3, 1, 0, 0, 0, 0), (70, .aload_n 0, 1, 0, 0, 0, 0), (71, .getfield 18, 3, 5, 6, 4, 0), (74, .iload_n 2, 1, 0, 0, 0, 0), (75, .iload_n 3, 1, 0, 0, 0, 0), (76, .iastore, 1, 0, 0, 0, 0), (77, .aload_n 0, 1, 0, 0, 0, 0), (78, .getfield 21, 3, 5, 7, 4, 0)],
  [(81, .iload_n 2, 1, 0, 0, 0, 0), (82, .aload_n 0, 1, 0, 0, 0, 0), (83, .getfield 9, 3, 5, 4, 4, 0), (86, .iload_n 3, 1, 0, 0, 0, 0), (87, .iaload, 1, 0, 0, 0, 0), (88, .iastore, 1, 0, 0, 0, 0), (89, .aload_n 0, 1, 0, 0, 0, 0), (90, .getfield 24, 3, 5, 8, 4, 0), (93, .iload_n 2, 1, 0, 0, 0, 0), (94, .aload_n 0, 1, 0, 0, 0, 0), (95, .getfield 15, 3, 5, 5, 4, 0)],
  [(98, .iload_n 3, 1, 0, 0, 0, 0), (99, .iaload, 1, 0, 0, 0, 0), (100, .iastore, 1, 0, 0, 0, 0), (101, .aload_n 0, 1, 0, 0, 0, 0), (102, .getfield 27, 3, 5, 9, 4, 0), (105, .iload_n 2, 1, 0, 0, 0, 0), (106, .aload_n 1, 1, 0, 0, 0, 0), (107, .getfield 68, 3, 8, 16, 4, 0), (110, .iload_n 2, 1, 0, 0, 0, 0), (111, .iaload, 1, 0, 0, 0, 0)],
  [(112, .iastore, 1, 0, 0, 0, 0), (113, .aload_n 0, 1, 0, 0, 0, 0), (114, .getfield 30, 3, 5, 10, 4, 0), (117, .iload_n 2, 1, 0, 0, 0, 0), (118, .iconst 0, 1, 0, 0, 0, 0), (119, .iastore, 1, 0, 0, 0, 0), (120, .aload_n 0, 1, 0, 0, 0, 0), (121, .getfield 33, 3, 5, 11, 4, 0), (124, .iload_n 2, 1, 0, 0, 0, 0), (125, .iconst 0, 1, 0, 0, 0, 0), (126, .iastore, 1, 0, 0, 0, 0), (127, .iinc 2 1, 3, 0, 0, 0, 0)],
  [(130, .goto (-77), 3, 0, 0, 0, 0), (133, .return_, 1, 0, 0, 0, 0)]]
/-- LostKeys$State.begin(LLostKeys$Town;)V -/
def rx_m80 : rx_Md := (yX5_begin, cX5_begin, 4, none, 2, 1, 0, 0, rx_t80)
def rx_t81 : List (List rx_E) := [
  [(0, .aload_n 0, 1, 0, 0, 0, 0), (1, .aload_n 1, 1, 0, 0, 0, 0), (2, .getfield 36, 3, 5, 0, 0, 0), (5, .putfield 36, 3, 5, 0, 0, 0), (8, .aload_n 0, 1, 0, 0, 0, 0), (9, .aload_n 1, 1, 0, 0, 0, 0), (10, .getfield 45, 3, 5, 1, 0, 0), (13, .putfield 45, 3, 5, 1, 0, 0)],
  [(16, .aload_n 0, 1, 0, 0, 0, 0), (17, .aload_n 1, 1, 0, 0, 0, 0), (18, .getfield 48, 3, 5, 2, 0, 0), (21, .putfield 48, 3, 5, 2, 0, 0), (24, .aload_n 0, 1, 0, 0, 0, 0), (25, .aload_n 1, 1, 0, 0, 0, 0), (26, .getfield 51, 3, 5, 3, 0, 0), (29, .putfield 51, 3, 5, 3, 0, 0)],
  [(32, .aload_n 1, 1, 0, 0, 0, 0), (33, .getfield 9, 3, 5, 4, 4, 0), (36, .iconst 0, 1, 0, 0, 0, 0), (37, .aload_n 0, 1, 0, 0, 0, 0), (38, .getfield 9, 3, 5, 4, 4, 0), (41, .iconst 0, 1, 0, 0, 0, 0), (42, .iconst 5, 1, 0, 0, 0, 0), (43, .invokestatic 55, 3, 0, 5, 2, 0), (46, .aload_n 1, 1, 0, 0, 0, 0), (47, .getfield 15, 3, 5, 5, 4, 0)],
  [(50, .iconst 0, 1, 0, 0, 0, 0), (51, .aload_n 0, 1, 0, 0, 0, 0), (52, .getfield 15, 3, 5, 5, 4, 0), (55, .iconst 0, 1, 0, 0, 0, 0), (56, .iconst 5, 1, 0, 0, 0, 0), (57, .invokestatic 55, 3, 0, 5, 2, 0), (60, .aload_n 1, 1, 0, 0, 0, 0), (61, .getfield 18, 3, 5, 6, 4, 0)],
  [(64, .iconst 0, 1, 0, 0, 0, 0), (65, .aload_n 0, 1, 0, 0, 0, 0), (66, .getfield 18, 3, 5, 6, 4, 0), (69, .iconst 0, 1, 0, 0, 0, 0), (70, .bipush 8, 2, 0, 0, 0, 0), (72, .invokestatic 55, 3, 0, 5, 2, 0), (75, .aload_n 1, 1, 0, 0, 0, 0), (76, .getfield 21, 3, 5, 7, 4, 0), (79, .iconst 0, 1, 0, 0, 0, 0)],
  [(80, .aload_n 0, 1, 0, 0, 0, 0), (81, .getfield 21, 3, 5, 7, 4, 0), (84, .iconst 0, 1, 0, 0, 0, 0), (85, .bipush 8, 2, 0, 0, 0, 0), (87, .invokestatic 55, 3, 0, 5, 2, 0), (90, .aload_n 1, 1, 0, 0, 0, 0), (91, .getfield 24, 3, 5, 8, 4, 0), (94, .iconst 0, 1, 0, 0, 0, 0), (95, .aload_n 0, 1, 0, 0, 0, 0)],
  [(96, .getfield 24, 3, 5, 8, 4, 0), (99, .iconst 0, 1, 0, 0, 0, 0), (100, .bipush 8, 2, 0, 0, 0, 0), (102, .invokestatic 55, 3, 0, 5, 2, 0), (105, .aload_n 1, 1, 0, 0, 0, 0), (106, .getfield 27, 3, 5, 9, 4, 0), (109, .iconst 0, 1, 0, 0, 0, 0), (110, .aload_n 0, 1, 0, 0, 0, 0), (111, .getfield 27, 3, 5, 9, 4, 0)],
  [(114, .iconst 0, 1, 0, 0, 0, 0), (115, .bipush 8, 2, 0, 0, 0, 0), (117, .invokestatic 55, 3, 0, 5, 2, 0), (120, .aload_n 1, 1, 0, 0, 0, 0), (121, .getfield 30, 3, 5, 10, 4, 0), (124, .iconst 0, 1, 0, 0, 0, 0), (125, .aload_n 0, 1, 0, 0, 0, 0), (126, .getfield 30, 3, 5, 10, 4, 0)],
  [(129, .iconst 0, 1, 0, 0, 0, 0), (130, .bipush 8, 2, 0, 0, 0, 0), (132, .invokestatic 55, 3, 0, 5, 2, 0), (135, .aload_n 1, 1, 0, 0, 0, 0), (136, .getfield 33, 3, 5, 11, 4, 0), (139, .iconst 0, 1, 0, 0, 0, 0), (140, .aload_n 0, 1, 0, 0, 0, 0), (141, .getfield 33, 3, 5, 11, 4, 0)],
  [(144, .iconst 0, 1, 0, 0, 0, 0), (145, .bipush 8, 2, 0, 0, 0, 0), (147, .invokestatic 55, 3, 0, 5, 2, 0), (150, .return_, 1, 0, 0, 0, 0)]]
/-- LostKeys$State.copy(LLostKeys$State;)V -/
def rx_m81 : rx_Md := (yX5_copy, cX5_copy, 2, none, 2, 1, 0, 0, rx_t81)
def rx_t82 : List (List rx_E) := [
  [(0, .sipush 400, 3, 0, 0, 0, 0), (3, .aload_n 0, 1, 0, 0, 0, 0), (4, .getfield 36, 3, 5, 0, 0, 0), (7, .isub, 1, 0, 0, 0, 0), (8, .ireturn, 1, 0, 0, 0, 0)]]
/-- LostKeys$State.daysLeft()I -/
def rx_m82 : rx_Md := (yX5_daysLeft, cX5_daysLeft, 1, (some .int), 1, 1, 0, 0, rx_t82)
def rx_t83 : List (List rx_E) := [
  [(0, .aload_n 0, 1, 0, 0, 0, 0), (1, .invokevirtual 140, 3, 85, 1, 9, 0), (4, .tableswitch 79 0 2 #[28, 37, 58], 28, 0, 0, 0, 0)],
  [],
  [(32, .aload_n 0, 1, 0, 0, 0, 0), (33, .aload_n 1, 1, 0, 0, 0, 0), (34, .iload_n 2, 1, 0, 0, 0, 0), (35, .invokevirtual 143, 3, 86, 3, 9, 0), (38, .goto 78, 3, 0, 0, 0, 0), (41, .aload_n 0, 1, 0, 0, 0, 0), (42, .aload_n 1, 1, 0, 0, 0, 0), (43, .bipush 7, 2, 0, 0, 0, 0), (45, .iload_n 2, 1, 0, 0, 0, 0), (46, .aload_n 0, 1, 0, 0, 0, 0), (47, .aload_n 1, 1, 0, 0, 0, 0)],
  [(48, .iload_n 2, 1, 0, 0, 0, 0), (49, .invokevirtual 146, 3, 89, 3, 9, 0), (52, .invokestatic 150, 3, 19, 1, 0, 0), (55, .iconst 0, 1, 0, 0, 0, 0), (56, .invokevirtual 153, 3, 79, 6, 9, 0), (59, .goto 57, 3, 0, 0, 0, 0), (62, .aload_n 0, 1, 0, 0, 0, 0), (63, .aload_n 1, 1, 0, 0, 0, 0)],
  [(64, .bipush 8, 2, 0, 0, 0, 0), (66, .iload_n 2, 1, 0, 0, 0, 0), (67, .aload_n 0, 1, 0, 0, 0, 0), (68, .aload_n 1, 1, 0, 0, 0, 0), (69, .iload_n 2, 1, 0, 0, 0, 0), (70, .invokevirtual 157, 3, 90, 3, 9, 0), (73, .invokestatic 150, 3, 19, 1, 0, 0), (76, .iconst 0, 1, 0, 0, 0, 0), (77, .invokevirtual 153, 3, 79, 6, 9, 0)],
  [(80, .goto 36, 3, 0, 0, 0, 0), (83, .aload_n 0, 1, 0, 0, 0, 0), (84, .aload_n 1, 1, 0, 0, 0, 0), (85, .bipush 9, 2, 0, 0, 0, 0), (87, .iload_n 2, 1, 0, 0, 0, 0), (88, .aload_n 0, 1, 0, 0, 0, 0), (89, .aload_n 1, 1, 0, 0, 0, 0), (90, .iload_n 2, 1, 0, 0, 0, 0), (91, .invokevirtual 146, 3, 89, 3, 9, 0), (94, .invokestatic 150, 3, 19, 1, 0, 0)],
  [(97, .aload_n 1, 1, 0, 0, 0, 0), (98, .aload_n 0, 1, 0, 0, 0, 0), (99, .getfield 9, 3, 5, 4, 4, 0), (102, .iload_n 2, 1, 0, 0, 0, 0), (103, .iaload, 1, 0, 0, 0, 0), (104, .aload_n 0, 1, 0, 0, 0, 0), (105, .getfield 15, 3, 5, 5, 4, 0), (108, .iload_n 2, 1, 0, 0, 0, 0), (109, .iaload, 1, 0, 0, 0, 0), (110, .invokevirtual 160, 3, 124, 3, 12, 0)],
  [(113, .invokevirtual 153, 3, 79, 6, 9, 0), (116, .return_, 1, 0, 0, 0, 0)]]
/-- LostKeys$State.drawAct(LLostKeys$Town;I)V -/
def rx_m83 : rx_Md := (yX5_drawAct, cX5_drawAct, 3, none, 3, 1, 0, 0, rx_t83)
def rx_t84 : List (List rx_E) := [
  [(0, .iload_n 2, 1, 0, 0, 0, 0), (1, .aload_n 0, 1, 0, 0, 0, 0), (2, .invokevirtual 104, 3, 82, 1, 9, 0), (5, .invokestatic 108, 3, 0, 2, 4, 0), (8, .istore 4, 2, 0, 0, 0, 0), (10, .aload_n 0, 1, 0, 0, 0, 0), (11, .iload_n 3, 1, 0, 0, 0, 0), (12, .putfield 133, 3, 5, 12, 0, 0), (15, .iconst 0, 1, 0, 0, 0, 0)],
  [(16, .istore 5, 2, 0, 0, 0, 0), (18, .iload 5, 2, 0, 0, 0, 0), (20, .iload 4, 2, 0, 0, 0, 0), (22, .if_icmp .ge 41, 3, 0, 0, 0, 0), (25, .iconst 0, 1, 0, 0, 0, 0), (26, .istore 6, 2, 0, 0, 0, 0), (28, .iload 6, 2, 0, 0, 0, 0), (30, .aload_n 1, 1, 0, 0, 0, 0), (31, .getfield 62, 3, 8, 5, 4, 0)],
  [(34, .iconst 2, 1, 0, 0, 0, 0), (35, .iaload, 1, 0, 0, 0, 0), (36, .if_icmp .ge 16, 3, 0, 0, 0, 0), (39, .aload_n 0, 1, 0, 0, 0, 0), (40, .aload_n 1, 1, 0, 0, 0, 0), (41, .iload 6, 2, 0, 0, 0, 0), (43, .invokevirtual 136, 3, 83, 3, 9, 0), (46, .iinc 6 1, 3, 0, 0, 0, 0)],
  [(49, .goto (-21), 3, 0, 0, 0, 0), (52, .aload_n 0, 1, 0, 0, 0, 0), (53, .aload_n 1, 1, 0, 0, 0, 0), (54, .invokevirtual 112, 3, 93, 2, 9, 0), (57, .iinc 5 1, 3, 0, 0, 0, 0), (60, .goto (-42), 3, 0, 0, 0, 0), (63, .iload 4, 2, 0, 0, 0, 0)],
  [(65, .ireturn, 1, 0, 0, 0, 0)]]
/-- LostKeys$State.drawDays(LLostKeys$Town;II)I -/
def rx_m84 : rx_Md := (yX5_drawDays, cX5_drawDays, 7, (some .int), 4, 1, 0, 0, rx_t84)
def rx_t85 : List (List rx_E) := [
  [(0, .aload_n 0, 1, 0, 0, 0, 0), (1, .aload_n 0, 1, 0, 0, 0, 0), (2, .getfield 133, 3, 5, 12, 0, 0), (5, .ldc 139, 2, 0, 0, 1, 1103515245), (7, .imul, 1, 0, 0, 0, 0), (8, .sipush 12345, 3, 0, 0, 0, 0), (11, .iadd, 1, 0, 0, 0, 0), (12, .putfield 133, 3, 5, 12, 0, 0), (15, .aload_n 0, 1, 0, 0, 0, 0)],
  [(16, .getfield 133, 3, 5, 12, 0, 0), (19, .bipush 8, 2, 0, 0, 0, 0), (21, .iushr, 1, 0, 0, 0, 0), (22, .iconst 4, 1, 0, 0, 0, 0), (23, .irem, 1, 0, 0, 0, 0), (24, .ireturn, 1, 0, 0, 0, 0)]]
/-- LostKeys$State.drawOfFour()I -/
def rx_m85 : rx_Md := (yX5_drawOfFour, cX5_drawOfFour, 1, (some .int), 1, 1, 0, 0, rx_t85)
def rx_t86 : List (List rx_E) := [
  [(0, .aload_n 0, 1, 0, 0, 0, 0), (1, .invokevirtual 140, 3, 85, 1, 9, 0), (4, .tableswitch 103 0 2 #[28, 53, 78], 28, 0, 0, 0, 0)],
  [],
  [(32, .aload_n 0, 1, 0, 0, 0, 0), (33, .aload_n 1, 1, 0, 0, 0, 0), (34, .bipush 10, 2, 0, 0, 0, 0), (36, .iload_n 2, 1, 0, 0, 0, 0), (37, .aload_n 0, 1, 0, 0, 0, 0), (38, .getfield 9, 3, 5, 4, 4, 0), (41, .iload_n 2, 1, 0, 0, 0, 0), (42, .iaload, 1, 0, 0, 0, 0), (43, .iconst 1, 1, 0, 0, 0, 0), (44, .iadd, 1, 0, 0, 0, 0), (45, .aload_n 0, 1, 0, 0, 0, 0), (46, .getfield 15, 3, 5, 5, 4, 0)],
  [(49, .iload_n 2, 1, 0, 0, 0, 0), (50, .iaload, 1, 0, 0, 0, 0), (51, .invokevirtual 153, 3, 79, 6, 9, 0), (54, .goto 75, 3, 0, 0, 0, 0), (57, .aload_n 0, 1, 0, 0, 0, 0), (58, .aload_n 1, 1, 0, 0, 0, 0), (59, .bipush 10, 2, 0, 0, 0, 0), (61, .iload_n 2, 1, 0, 0, 0, 0), (62, .aload_n 0, 1, 0, 0, 0, 0), (63, .getfield 9, 3, 5, 4, 4, 0)],
  [(66, .iload_n 2, 1, 0, 0, 0, 0), (67, .iaload, 1, 0, 0, 0, 0), (68, .iconst 1, 1, 0, 0, 0, 0), (69, .isub, 1, 0, 0, 0, 0), (70, .aload_n 0, 1, 0, 0, 0, 0), (71, .getfield 15, 3, 5, 5, 4, 0), (74, .iload_n 2, 1, 0, 0, 0, 0), (75, .iaload, 1, 0, 0, 0, 0), (76, .invokevirtual 153, 3, 79, 6, 9, 0), (79, .goto 50, 3, 0, 0, 0, 0)],
  [(82, .aload_n 0, 1, 0, 0, 0, 0), (83, .aload_n 1, 1, 0, 0, 0, 0), (84, .bipush 10, 2, 0, 0, 0, 0), (86, .iload_n 2, 1, 0, 0, 0, 0), (87, .aload_n 0, 1, 0, 0, 0, 0), (88, .getfield 9, 3, 5, 4, 4, 0), (91, .iload_n 2, 1, 0, 0, 0, 0), (92, .iaload, 1, 0, 0, 0, 0), (93, .aload_n 0, 1, 0, 0, 0, 0), (94, .getfield 15, 3, 5, 5, 4, 0)],
  [(97, .iload_n 2, 1, 0, 0, 0, 0), (98, .iaload, 1, 0, 0, 0, 0), (99, .iconst 1, 1, 0, 0, 0, 0), (100, .iadd, 1, 0, 0, 0, 0), (101, .invokevirtual 153, 3, 79, 6, 9, 0), (104, .goto 25, 3, 0, 0, 0, 0), (107, .aload_n 0, 1, 0, 0, 0, 0), (108, .aload_n 1, 1, 0, 0, 0, 0), (109, .bipush 10, 2, 0, 0, 0, 0), (111, .iload_n 2, 1, 0, 0, 0, 0)],
  [(112, .aload_n 0, 1, 0, 0, 0, 0), (113, .getfield 9, 3, 5, 4, 4, 0), (116, .iload_n 2, 1, 0, 0, 0, 0), (117, .iaload, 1, 0, 0, 0, 0), (118, .aload_n 0, 1, 0, 0, 0, 0), (119, .getfield 15, 3, 5, 5, 4, 0), (122, .iload_n 2, 1, 0, 0, 0, 0), (123, .iaload, 1, 0, 0, 0, 0), (124, .iconst 1, 1, 0, 0, 0, 0), (125, .isub, 1, 0, 0, 0, 0), (126, .invokevirtual 153, 3, 79, 6, 9, 0)],
  [(129, .return_, 1, 0, 0, 0, 0)]]
/-- LostKeys$State.drawWalk(LLostKeys$Town;I)V -/
def rx_m86 : rx_Md := (yX5_drawWalk, cX5_drawWalk, 3, none, 3, 1, 0, 0, rx_t86)
def rx_t87 : List (List rx_E) := [
  [(0, .aload_n 0, 1, 0, 0, 0, 0), (1, .getfield 9, 3, 5, 4, 4, 0), (4, .iload_n 2, 1, 0, 0, 0, 0), (5, .iload_n 3, 1, 0, 0, 0, 0), (6, .iastore, 1, 0, 0, 0, 0), (7, .aload_n 0, 1, 0, 0, 0, 0), (8, .getfield 15, 3, 5, 5, 4, 0), (11, .iload_n 2, 1, 0, 0, 0, 0), (12, .iload 4, 2, 0, 0, 0, 0), (14, .iastore, 1, 0, 0, 0, 0), (15, .iconst 0, 1, 0, 0, 0, 0)],
  [(16, .istore 5, 2, 0, 0, 0, 0), (18, .iload 5, 2, 0, 0, 0, 0), (20, .aload_n 1, 1, 0, 0, 0, 0), (21, .getfield 62, 3, 8, 5, 4, 0), (24, .iconst 3, 1, 0, 0, 0, 0), (25, .iaload, 1, 0, 0, 0, 0), (26, .if_icmp .ge 37, 3, 0, 0, 0, 0), (29, .aload_n 0, 1, 0, 0, 0, 0), (30, .getfield 18, 3, 5, 6, 4, 0)],
  [(33, .iload 5, 2, 0, 0, 0, 0), (35, .iaload, 1, 0, 0, 0, 0), (36, .iload_n 2, 1, 0, 0, 0, 0), (37, .if_icmp .ne 20, 3, 0, 0, 0, 0), (40, .aload_n 0, 1, 0, 0, 0, 0), (41, .getfield 21, 3, 5, 7, 4, 0), (44, .iload 5, 2, 0, 0, 0, 0), (46, .iload_n 3, 1, 0, 0, 0, 0), (47, .iastore, 1, 0, 0, 0, 0)],
  [(48, .aload_n 0, 1, 0, 0, 0, 0), (49, .getfield 24, 3, 5, 8, 4, 0), (52, .iload 5, 2, 0, 0, 0, 0), (54, .iload 4, 2, 0, 0, 0, 0), (56, .iastore, 1, 0, 0, 0, 0), (57, .iinc 5 1, 3, 0, 0, 0, 0), (60, .goto (-42), 3, 0, 0, 0, 0), (63, .return_, 1, 0, 0, 0, 0)]]
/-- LostKeys$State.goTo(LLostKeys$Town;III)V -/
def rx_m87 : rx_Md := (yX5_goTo, cX5_goTo, 6, none, 5, 1, 0, 0, rx_t87)
def rx_t88 : List (List rx_E) := [
  [(0, .aload_n 0, 1, 0, 0, 0, 0), (1, .getfield 45, 3, 5, 1, 0, 0), (4, .iload_n 1, 1, 0, 0, 0, 0), (5, .ishr, 1, 0, 0, 0, 0), (6, .iconst 1, 1, 0, 0, 0, 0), (7, .iand, 1, 0, 0, 0, 0), (8, .iconst 1, 1, 0, 0, 0, 0), (9, .if_icmp .ne 7, 3, 0, 0, 0, 0), (12, .iconst 1, 1, 0, 0, 0, 0), (13, .goto 4, 3, 0, 0, 0, 0)],
  [(16, .iconst 0, 1, 0, 0, 0, 0), (17, .ireturn, 1, 0, 0, 0, 0)]]
/-- LostKeys$State.isOpen(I)Z -/
def rx_m88 : rx_Md := (yX5_isOpen, cX5_isOpen, 2, (some .boolean), 2, 1, 0, 0, rx_t88)
def rx_t89 : List (List rx_E) := [
  [(0, .iconst 0, 1, 0, 0, 0, 0), (1, .istore_n 3, 1, 0, 0, 0, 0), (2, .iconst 0, 1, 0, 0, 0, 0), (3, .istore 4, 2, 0, 0, 0, 0), (5, .iload 4, 2, 0, 0, 0, 0), (7, .aload_n 1, 1, 0, 0, 0, 0), (8, .getfield 62, 3, 8, 5, 4, 0), (11, .iconst 3, 1, 0, 0, 0, 0), (12, .iaload, 1, 0, 0, 0, 0), (13, .if_icmp .ge 27, 3, 0, 0, 0, 0)],
  [(16, .aload_n 0, 1, 0, 0, 0, 0), (17, .getfield 18, 3, 5, 6, 4, 0), (20, .iload 4, 2, 0, 0, 0, 0), (22, .iaload, 1, 0, 0, 0, 0), (23, .iload_n 2, 1, 0, 0, 0, 0), (24, .if_icmp .ne 10, 3, 0, 0, 0, 0), (27, .iload_n 3, 1, 0, 0, 0, 0), (28, .iconst 1, 1, 0, 0, 0, 0), (29, .iload 4, 2, 0, 0, 0, 0), (31, .ishl, 1, 0, 0, 0, 0)],
  [(32, .ior, 1, 0, 0, 0, 0), (33, .istore_n 3, 1, 0, 0, 0, 0), (34, .iinc 4 1, 3, 0, 0, 0, 0), (37, .goto (-32), 3, 0, 0, 0, 0), (40, .iload_n 3, 1, 0, 0, 0, 0), (41, .ireturn, 1, 0, 0, 0, 0)]]
/-- LostKeys$State.keysHeld(LLostKeys$Town;I)I -/
def rx_m89 : rx_Md := (yX5_keysHeld, cX5_keysHeld, 5, (some .int), 3, 1, 0, 0, rx_t89)
def rx_t90 : List (List rx_E) := [
  [(0, .iconst 0, 1, 0, 0, 0, 0), (1, .istore_n 3, 1, 0, 0, 0, 0), (2, .iconst 0, 1, 0, 0, 0, 0), (3, .istore 4, 2, 0, 0, 0, 0), (5, .iload 4, 2, 0, 0, 0, 0), (7, .aload_n 1, 1, 0, 0, 0, 0), (8, .getfield 62, 3, 8, 5, 4, 0), (11, .iconst 3, 1, 0, 0, 0, 0), (12, .iaload, 1, 0, 0, 0, 0), (13, .if_icmp .ge 26, 3, 0, 0, 0, 0)],
  [(16, .aload_n 0, 1, 0, 0, 0, 0), (17, .iload 4, 2, 0, 0, 0, 0), (19, .iload_n 2, 1, 0, 0, 0, 0), (20, .invokevirtual 71, 3, 92, 3, 9, 0), (23, .ifCond .eq 10, 3, 0, 0, 0, 0), (26, .iload_n 3, 1, 0, 0, 0, 0), (27, .iconst 1, 1, 0, 0, 0, 0), (28, .iload 4, 2, 0, 0, 0, 0), (30, .ishl, 1, 0, 0, 0, 0), (31, .ior, 1, 0, 0, 0, 0)],
  [(32, .istore_n 3, 1, 0, 0, 0, 0), (33, .iinc 4 1, 3, 0, 0, 0, 0), (36, .goto (-31), 3, 0, 0, 0, 0), (39, .iload_n 3, 1, 0, 0, 0, 0), (40, .ireturn, 1, 0, 0, 0, 0)]]
/-- LostKeys$State.keysLyingBy(LLostKeys$Town;I)I -/
def rx_m90 : rx_Md := (yX5_keysLyingBy, cX5_keysLyingBy, 5, (some .int), 3, 1, 0, 0, rx_t90)
def rx_t91 : List (List rx_E) := [
  [(0, .aload_n 0, 1, 0, 0, 0, 0), (1, .getfield 30, 3, 5, 10, 4, 0), (4, .iload_n 2, 1, 0, 0, 0, 0), (5, .dup2, 1, 0, 0, 0, 0), (6, .iaload, 1, 0, 0, 0, 0), (7, .iconst 1, 1, 0, 0, 0, 0), (8, .iadd, 1, 0, 0, 0, 0), (9, .iastore, 1, 0, 0, 0, 0), (10, .aload_n 1, 1, 0, 0, 0, 0), (11, .aload_n 0, 1, 0, 0, 0, 0), (12, .getfield 21, 3, 5, 7, 4, 0), (15, .iload_n 2, 1, 0, 0, 0, 0)],
  [(16, .iaload, 1, 0, 0, 0, 0), (17, .aload_n 0, 1, 0, 0, 0, 0), (18, .getfield 24, 3, 5, 8, 4, 0), (21, .iload_n 2, 1, 0, 0, 0, 0), (22, .iaload, 1, 0, 0, 0, 0), (23, .invokevirtual 120, 3, 128, 3, 12, 0), (26, .istore_n 3, 1, 0, 0, 0, 0), (27, .iload_n 3, 1, 0, 0, 0, 0), (28, .iconst (-1), 1, 0, 0, 0, 0), (29, .if_icmp .eq 25, 3, 0, 0, 0, 0)],
  [(32, .aload_n 1, 1, 0, 0, 0, 0), (33, .getfield 123, 3, 8, 2, 0, 0), (36, .iconst 1, 1, 0, 0, 0, 0), (37, .if_icmp .lt 17, 3, 0, 0, 0, 0), (40, .aload_n 0, 1, 0, 0, 0, 0), (41, .getfield 30, 3, 5, 10, 4, 0), (44, .iload_n 2, 1, 0, 0, 0, 0), (45, .iaload, 1, 0, 0, 0, 0), (46, .aload_n 1, 1, 0, 0, 0, 0), (47, .getfield 123, 3, 8, 2, 0, 0)],
  [(50, .irem, 1, 0, 0, 0, 0), (51, .ifCond .eq 4, 3, 0, 0, 0, 0), (54, .return_, 1, 0, 0, 0, 0), (55, .aload_n 0, 1, 0, 0, 0, 0), (56, .getfield 27, 3, 5, 9, 4, 0), (59, .iload_n 2, 1, 0, 0, 0, 0), (60, .iaload, 1, 0, 0, 0, 0), (61, .aload_n 1, 1, 0, 0, 0, 0), (62, .getfield 97, 3, 8, 11, 4, 0)],
  [(65, .iload_n 3, 1, 0, 0, 0, 0), (66, .iaload, 1, 0, 0, 0, 0), (67, .if_icmp .eq 44, 3, 0, 0, 0, 0), (70, .aload_n 0, 1, 0, 0, 0, 0), (71, .getfield 27, 3, 5, 9, 4, 0), (74, .iload_n 2, 1, 0, 0, 0, 0), (75, .aload_n 0, 1, 0, 0, 0, 0), (76, .getfield 27, 3, 5, 9, 4, 0), (79, .iload_n 2, 1, 0, 0, 0, 0)],
  [(80, .iaload, 1, 0, 0, 0, 0), (81, .aload_n 1, 1, 0, 0, 0, 0), (82, .getfield 97, 3, 8, 11, 4, 0), (85, .iload_n 3, 1, 0, 0, 0, 0), (86, .iaload, 1, 0, 0, 0, 0), (87, .invokestatic 126, 3, 139, 2, 0, 0), (90, .iastore, 1, 0, 0, 0, 0), (91, .aload_n 0, 1, 0, 0, 0, 0), (92, .getfield 33, 3, 5, 11, 4, 0), (95, .iload_n 2, 1, 0, 0, 0, 0)],
  [(96, .dup2, 1, 0, 0, 0, 0), (97, .iaload, 1, 0, 0, 0, 0), (98, .iconst 1, 1, 0, 0, 0, 0), (99, .iadd, 1, 0, 0, 0, 0), (100, .iastore, 1, 0, 0, 0, 0), (101, .aload_n 0, 1, 0, 0, 0, 0), (102, .dup, 1, 0, 0, 0, 0), (103, .getfield 48, 3, 5, 2, 0, 0), (106, .iconst 1, 1, 0, 0, 0, 0), (107, .iadd, 1, 0, 0, 0, 0), (108, .putfield 48, 3, 5, 2, 0, 0), (111, .aload_n 0, 1, 0, 0, 0, 0)],
  [(112, .getfield 27, 3, 5, 9, 4, 0), (115, .iload_n 2, 1, 0, 0, 0, 0), (116, .iaload, 1, 0, 0, 0, 0), (117, .aload_n 1, 1, 0, 0, 0, 0), (118, .getfield 97, 3, 8, 11, 4, 0), (121, .iload_n 3, 1, 0, 0, 0, 0), (122, .iaload, 1, 0, 0, 0, 0), (123, .if_icmp .ne 33, 3, 0, 0, 0, 0), (126, .aload_n 0, 1, 0, 0, 0, 0), (127, .iload_n 3, 1, 0, 0, 0, 0)],
  [(128, .invokevirtual 129, 3, 88, 2, 9, 0), (131, .ifCond .ne 25, 3, 0, 0, 0, 0), (134, .aload_n 0, 1, 0, 0, 0, 0), (135, .dup, 1, 0, 0, 0, 0), (136, .getfield 45, 3, 5, 1, 0, 0), (139, .iconst 1, 1, 0, 0, 0, 0), (140, .iload_n 3, 1, 0, 0, 0, 0), (141, .ishl, 1, 0, 0, 0, 0), (142, .ior, 1, 0, 0, 0, 0), (143, .putfield 45, 3, 5, 1, 0, 0)],
  [(146, .aload_n 0, 1, 0, 0, 0, 0), (147, .dup, 1, 0, 0, 0, 0), (148, .getfield 51, 3, 5, 3, 0, 0), (151, .iconst 1, 1, 0, 0, 0, 0), (152, .iadd, 1, 0, 0, 0, 0), (153, .putfield 51, 3, 5, 3, 0, 0), (156, .return_, 1, 0, 0, 0, 0)]]
/-- LostKeys$State.lieOn(LLostKeys$Town;I)V -/
def rx_m91 : rx_Md := (yX5_lieOn, cX5_lieOn, 4, none, 3, 1, 0, 0, rx_t91)
def rx_t92 : List (List rx_E) := [
  [(0, .aload_n 0, 1, 0, 0, 0, 0), (1, .getfield 18, 3, 5, 6, 4, 0), (4, .iload_n 1, 1, 0, 0, 0, 0), (5, .iaload, 1, 0, 0, 0, 0), (6, .iconst (-1), 1, 0, 0, 0, 0), (7, .if_icmp .ne 37, 3, 0, 0, 0, 0), (10, .aload_n 0, 1, 0, 0, 0, 0), (11, .getfield 21, 3, 5, 7, 4, 0), (14, .iload_n 1, 1, 0, 0, 0, 0), (15, .iaload, 1, 0, 0, 0, 0)],
  [(16, .aload_n 0, 1, 0, 0, 0, 0), (17, .getfield 9, 3, 5, 4, 4, 0), (20, .iload_n 2, 1, 0, 0, 0, 0), (21, .iaload, 1, 0, 0, 0, 0), (22, .if_icmp .ne 22, 3, 0, 0, 0, 0), (25, .aload_n 0, 1, 0, 0, 0, 0), (26, .getfield 24, 3, 5, 8, 4, 0), (29, .iload_n 1, 1, 0, 0, 0, 0), (30, .iaload, 1, 0, 0, 0, 0), (31, .aload_n 0, 1, 0, 0, 0, 0)],
  [(32, .getfield 15, 3, 5, 5, 4, 0), (35, .iload_n 2, 1, 0, 0, 0, 0), (36, .iaload, 1, 0, 0, 0, 0), (37, .if_icmp .ne 7, 3, 0, 0, 0, 0), (40, .iconst 1, 1, 0, 0, 0, 0), (41, .goto 4, 3, 0, 0, 0, 0), (44, .iconst 0, 1, 0, 0, 0, 0), (45, .ireturn, 1, 0, 0, 0, 0)]]
/-- LostKeys$State.liesBy(II)Z -/
def rx_m92 : rx_Md := (yX5_liesBy, cX5_liesBy, 3, (some .boolean), 3, 1, 0, 0, rx_t92)
def rx_t93 : List (List rx_E) := [
  [(0, .iconst 0, 1, 0, 0, 0, 0), (1, .istore_n 2, 1, 0, 0, 0, 0), (2, .iload_n 2, 1, 0, 0, 0, 0), (3, .aload_n 1, 1, 0, 0, 0, 0), (4, .getfield 62, 3, 8, 5, 4, 0), (7, .iconst 3, 1, 0, 0, 0, 0), (8, .iaload, 1, 0, 0, 0, 0), (9, .if_icmp .ge 25, 3, 0, 0, 0, 0), (12, .aload_n 0, 1, 0, 0, 0, 0), (13, .getfield 18, 3, 5, 6, 4, 0)],
  [(16, .iload_n 2, 1, 0, 0, 0, 0), (17, .iaload, 1, 0, 0, 0, 0), (18, .iconst (-1), 1, 0, 0, 0, 0), (19, .if_icmp .ne 9, 3, 0, 0, 0, 0), (22, .aload_n 0, 1, 0, 0, 0, 0), (23, .aload_n 1, 1, 0, 0, 0, 0), (24, .iload_n 2, 1, 0, 0, 0, 0), (25, .invokevirtual 116, 3, 91, 3, 9, 0), (28, .iinc 2 1, 3, 0, 0, 0, 0), (31, .goto (-29), 3, 0, 0, 0, 0)],
  [(34, .aload_n 0, 1, 0, 0, 0, 0), (35, .dup, 1, 0, 0, 0, 0), (36, .getfield 36, 3, 5, 0, 0, 0), (39, .iconst 1, 1, 0, 0, 0, 0), (40, .iadd, 1, 0, 0, 0, 0), (41, .putfield 36, 3, 5, 0, 0, 0), (44, .return_, 1, 0, 0, 0, 0)]]
/-- LostKeys$State.passDay(LLostKeys$Town;)V -/
def rx_m93 : rx_Md := (yX5_passDay, cX5_passDay, 3, none, 2, 1, 0, 0, rx_t93)
def rx_t94 : List (List rx_E) := [
  [(0, .iload_n 2, 1, 0, 0, 0, 0), (1, .aload_n 0, 1, 0, 0, 0, 0), (2, .invokevirtual 104, 3, 82, 1, 9, 0), (5, .invokestatic 108, 3, 0, 2, 4, 0), (8, .istore_n 3, 1, 0, 0, 0, 0), (9, .iconst 0, 1, 0, 0, 0, 0), (10, .istore 4, 2, 0, 0, 0, 0), (12, .iload 4, 2, 0, 0, 0, 0), (14, .iload_n 3, 1, 0, 0, 0, 0), (15, .if_icmp .ge 14, 3, 0, 0, 0, 0)],
  [(18, .aload_n 0, 1, 0, 0, 0, 0), (19, .aload_n 1, 1, 0, 0, 0, 0), (20, .invokevirtual 112, 3, 93, 2, 9, 0), (23, .iinc 4 1, 3, 0, 0, 0, 0), (26, .goto (-14), 3, 0, 0, 0, 0), (29, .iload_n 3, 1, 0, 0, 0, 0), (30, .ireturn, 1, 0, 0, 0, 0)]]
/-- LostKeys$State.passDays(LLostKeys$Town;I)I -/
def rx_m94 : rx_Md := (yX5_passDays, cX5_passDays, 5, (some .int), 3, 1, 0, 0, rx_t94)
def rx_t95 : List (List rx_E) := [
  [(0, .iload_n 2, 1, 0, 0, 0, 0), (1, .tableswitch 81 7 9 #[27, 46, 65], 27, 0, 0, 0, 0)],
  [(28, .aload_n 0, 1, 0, 0, 0, 0), (29, .getfield 18, 3, 5, 6, 4, 0)],
  [(32, .iload 4, 2, 0, 0, 0, 0), (34, .iconst (-1), 1, 0, 0, 0, 0), (35, .iastore, 1, 0, 0, 0, 0), (36, .aload_n 0, 1, 0, 0, 0, 0), (37, .getfield 30, 3, 5, 10, 4, 0), (40, .iload 4, 2, 0, 0, 0, 0), (42, .iconst 0, 1, 0, 0, 0, 0), (43, .iastore, 1, 0, 0, 0, 0), (44, .goto 48, 3, 0, 0, 0, 0), (47, .aload_n 0, 1, 0, 0, 0, 0)],
  [(48, .getfield 18, 3, 5, 6, 4, 0), (51, .iload 4, 2, 0, 0, 0, 0), (53, .iload_n 3, 1, 0, 0, 0, 0), (54, .iastore, 1, 0, 0, 0, 0), (55, .aload_n 0, 1, 0, 0, 0, 0), (56, .getfield 30, 3, 5, 10, 4, 0), (59, .iload 4, 2, 0, 0, 0, 0), (61, .iconst 0, 1, 0, 0, 0, 0), (62, .iastore, 1, 0, 0, 0, 0), (63, .goto 29, 3, 0, 0, 0, 0)],
  [(66, .aload_n 0, 1, 0, 0, 0, 0), (67, .dup, 1, 0, 0, 0, 0), (68, .getfield 45, 3, 5, 1, 0, 0), (71, .iconst 1, 1, 0, 0, 0, 0), (72, .iload 5, 2, 0, 0, 0, 0), (74, .ishl, 1, 0, 0, 0, 0), (75, .ixor, 1, 0, 0, 0, 0), (76, .putfield 45, 3, 5, 1, 0, 0), (79, .goto 13, 3, 0, 0, 0, 0)],
  [(82, .aload_n 0, 1, 0, 0, 0, 0), (83, .aload_n 1, 1, 0, 0, 0, 0), (84, .iload_n 3, 1, 0, 0, 0, 0), (85, .iload 4, 2, 0, 0, 0, 0), (87, .iload 5, 2, 0, 0, 0, 0), (89, .invokevirtual 100, 3, 87, 5, 9, 0), (92, .return_, 1, 0, 0, 0, 0)]]
/-- LostKeys$State.perform(LLostKeys$Town;IIII)V -/
def rx_m95 : rx_Md := (yX5_perform, cX5_perform, 6, none, 6, 1, 0, 0, rx_t95)
def rx_t96 : List (List rx_E) := [
  [(0, .aload_n 1, 1, 0, 0, 0, 0), (1, .iconst 2, 1, 0, 0, 0, 0), (2, .iload_n 3, 1, 0, 0, 0, 0), (3, .invokevirtual 75, 3, 125, 3, 12, 0), (6, .ifCond .eq 33, 3, 0, 0, 0, 0), (9, .iload_n 2, 1, 0, 0, 0, 0), (10, .bipush 10, 2, 0, 0, 0, 0), (12, .if_icmp .ne 17, 3, 0, 0, 0, 0), (15, .aload_n 1, 1, 0, 0, 0, 0)],
  [(16, .iload 4, 2, 0, 0, 0, 0), (18, .iload 5, 2, 0, 0, 0, 0), (20, .invokevirtual 78, 3, 126, 3, 12, 0), (23, .ifCond .ne 18, 3, 0, 0, 0, 0), (26, .goto 13, 3, 0, 0, 0, 0), (29, .aload_n 1, 1, 0, 0, 0, 0), (30, .iconst 3, 1, 0, 0, 0, 0), (31, .iload 4, 2, 0, 0, 0, 0)],
  [(33, .invokevirtual 75, 3, 125, 3, 12, 0), (36, .ifCond .ne 5, 3, 0, 0, 0, 0), (39, .iconst (-1), 1, 0, 0, 0, 0), (40, .ireturn, 1, 0, 0, 0, 0), (41, .iload_n 2, 1, 0, 0, 0, 0), (42, .tableswitch 109 7 10 #[30, 47, 63, 74], 30, 0, 0, 0, 0)],
  [],
  [(72, .aload_n 0, 1, 0, 0, 0, 0), (73, .getfield 18, 3, 5, 6, 4, 0), (76, .iload 4, 2, 0, 0, 0, 0), (78, .iaload, 1, 0, 0, 0, 0), (79, .iload_n 3, 1, 0, 0, 0, 0)],
  [(80, .if_icmp .ne 7, 3, 0, 0, 0, 0), (83, .iconst 0, 1, 0, 0, 0, 0), (84, .goto 4, 3, 0, 0, 0, 0), (87, .iconst 1, 1, 0, 0, 0, 0), (88, .ireturn, 1, 0, 0, 0, 0), (89, .aload_n 0, 1, 0, 0, 0, 0), (90, .iload 4, 2, 0, 0, 0, 0), (92, .iload_n 3, 1, 0, 0, 0, 0), (93, .invokevirtual 71, 3, 92, 3, 9, 0)],
  [(96, .ifCond .eq 7, 3, 0, 0, 0, 0), (99, .iconst 0, 1, 0, 0, 0, 0), (100, .goto 4, 3, 0, 0, 0, 0), (103, .iconst 1, 1, 0, 0, 0, 0), (104, .ireturn, 1, 0, 0, 0, 0), (105, .aload_n 0, 1, 0, 0, 0, 0), (106, .aload_n 1, 1, 0, 0, 0, 0), (107, .iload_n 3, 1, 0, 0, 0, 0), (108, .iload 4, 2, 0, 0, 0, 0), (110, .iload 5, 2, 0, 0, 0, 0)],
  [(112, .invokevirtual 81, 3, 97, 5, 9, 0), (115, .ireturn, 1, 0, 0, 0, 0), (116, .iload 4, 2, 0, 0, 0, 0), (118, .aload_n 0, 1, 0, 0, 0, 0), (119, .getfield 9, 3, 5, 4, 4, 0), (122, .iload_n 3, 1, 0, 0, 0, 0), (123, .iaload, 1, 0, 0, 0, 0), (124, .isub, 1, 0, 0, 0, 0), (125, .invokestatic 85, 3, 0, 1, 6, 0)],
  [(128, .iload 5, 2, 0, 0, 0, 0), (130, .aload_n 0, 1, 0, 0, 0, 0), (131, .getfield 15, 3, 5, 5, 4, 0), (134, .iload_n 3, 1, 0, 0, 0, 0), (135, .iaload, 1, 0, 0, 0, 0), (136, .isub, 1, 0, 0, 0, 0), (137, .invokestatic 85, 3, 0, 1, 6, 0), (140, .iadd, 1, 0, 0, 0, 0), (141, .iconst 1, 1, 0, 0, 0, 0), (142, .if_icmp .ne 7, 3, 0, 0, 0, 0)],
  [(145, .iconst 0, 1, 0, 0, 0, 0), (146, .goto 4, 3, 0, 0, 0, 0), (149, .iconst 1, 1, 0, 0, 0, 0), (150, .ireturn, 1, 0, 0, 0, 0), (151, .iconst (-1), 1, 0, 0, 0, 0), (152, .ireturn, 1, 0, 0, 0, 0)]]
/-- LostKeys$State.whyNot(LLostKeys$Town;IIII)I -/
def rx_m96 : rx_Md := (yX5_whyNot, cX5_whyNot, 6, (some .int), 6, 1, 0, 0, rx_t96)
def rx_t97 : List (List rx_E) := [
  [(0, .aload_n 1, 1, 0, 0, 0, 0), (1, .iconst 1, 1, 0, 0, 0, 0), (2, .iload 4, 2, 0, 0, 0, 0), (4, .invokevirtual 75, 3, 125, 3, 12, 0), (7, .ifCond .ne 5, 3, 0, 0, 0, 0), (10, .iconst (-1), 1, 0, 0, 0, 0), (11, .ireturn, 1, 0, 0, 0, 0), (12, .aload_n 0, 1, 0, 0, 0, 0), (13, .getfield 18, 3, 5, 6, 4, 0)],
  [(16, .iload_n 3, 1, 0, 0, 0, 0), (17, .iaload, 1, 0, 0, 0, 0), (18, .iload_n 2, 1, 0, 0, 0, 0), (19, .if_icmp .eq 5, 3, 0, 0, 0, 0), (22, .iconst 1, 1, 0, 0, 0, 0), (23, .ireturn, 1, 0, 0, 0, 0), (24, .aload_n 1, 1, 0, 0, 0, 0), (25, .getfield 91, 3, 8, 9, 4, 0), (28, .iload 4, 2, 0, 0, 0, 0), (30, .iaload, 1, 0, 0, 0, 0), (31, .aload_n 0, 1, 0, 0, 0, 0)],
  [(32, .getfield 9, 3, 5, 4, 4, 0), (35, .iload_n 2, 1, 0, 0, 0, 0), (36, .iaload, 1, 0, 0, 0, 0), (37, .if_icmp .ne 19, 3, 0, 0, 0, 0), (40, .aload_n 1, 1, 0, 0, 0, 0), (41, .getfield 94, 3, 8, 10, 4, 0), (44, .iload 4, 2, 0, 0, 0, 0), (46, .iaload, 1, 0, 0, 0, 0), (47, .aload_n 0, 1, 0, 0, 0, 0)],
  [(48, .getfield 15, 3, 5, 5, 4, 0), (51, .iload_n 2, 1, 0, 0, 0, 0), (52, .iaload, 1, 0, 0, 0, 0), (53, .if_icmp .eq 5, 3, 0, 0, 0, 0), (56, .iconst 2, 1, 0, 0, 0, 0), (57, .ireturn, 1, 0, 0, 0, 0), (58, .aload_n 0, 1, 0, 0, 0, 0), (59, .getfield 27, 3, 5, 9, 4, 0), (62, .iload_n 3, 1, 0, 0, 0, 0), (63, .iaload, 1, 0, 0, 0, 0)],
  [(64, .aload_n 1, 1, 0, 0, 0, 0), (65, .getfield 97, 3, 8, 11, 4, 0), (68, .iload 4, 2, 0, 0, 0, 0), (70, .iaload, 1, 0, 0, 0, 0), (71, .if_icmp .ne 7, 3, 0, 0, 0, 0), (74, .iconst 0, 1, 0, 0, 0, 0), (75, .goto 4, 3, 0, 0, 0, 0), (78, .iconst 3, 1, 0, 0, 0, 0), (79, .ireturn, 1, 0, 0, 0, 0)]]
/-- LostKeys$State.whyNotTry(LLostKeys$Town;III)I -/
def rx_m97 : rx_Md := (yX5_whyNotTry, cX5_whyNotTry, 5, (some .int), 5, 1, 0, 0, rx_t97)
def rx_t98 : List (List rx_E) := [
  [(0, .aload_n 0, 1, 0, 0, 0, 0), (1, .invokespecial 3, 3, 0, 1, 1, 0), (4, .aload_n 0, 1, 0, 0, 0, 0), (5, .bipush 40, 2, 0, 0, 0, 0), (7, .newarray .byte, 2, 0, 0, 0, 0), (9, .putfield 9, 3, 6, 0, 4, 0), (12, .return_, 1, 0, 0, 0, 0)]]
/-- LostKeys$Tag.<init>()V -/
def rx_m98 : rx_Md := (yX6_init, cX6_init, 1, none, 1, 2, 1, 40, rx_t98)
def rx_t99 : List (List rx_E) := [
  [(0, .aload_n 0, 1, 0, 0, 0, 0), (1, .getfield 15, 3, 6, 1, 0, 0), (4, .aload_n 0, 1, 0, 0, 0, 0), (5, .getfield 9, 3, 6, 0, 4, 0), (8, .arraylength, 1, 0, 0, 0, 0), (9, .if_icmp .ge 24, 3, 0, 0, 0, 0), (12, .aload_n 0, 1, 0, 0, 0, 0), (13, .getfield 9, 3, 6, 0, 4, 0)],
  [(16, .aload_n 0, 1, 0, 0, 0, 0), (17, .getfield 15, 3, 6, 1, 0, 0), (20, .iload_n 1, 1, 0, 0, 0, 0), (21, .i2b, 1, 0, 0, 0, 0), (22, .bastore, 1, 0, 0, 0, 0), (23, .aload_n 0, 1, 0, 0, 0, 0), (24, .dup, 1, 0, 0, 0, 0), (25, .getfield 15, 3, 6, 1, 0, 0), (28, .iconst 1, 1, 0, 0, 0, 0), (29, .iadd, 1, 0, 0, 0, 0), (30, .putfield 15, 3, 6, 1, 0, 0)],
  [(33, .return_, 1, 0, 0, 0, 0)]]
/-- LostKeys$Tag.putByte(I)V -/
def rx_m99 : rx_Md := (yX6_putByte, cX6_putByte, 2, none, 2, 1, 0, 0, rx_t99)
def rx_t100 : List (List rx_E) := [
  [(0, .aload_n 1, 1, 0, 0, 0, 0), (1, .getfield 61, 3, 8, 6, 4, 0), (4, .bipush 8, 2, 0, 0, 0, 0), (6, .iload_n 2, 1, 0, 0, 0, 0), (7, .imul, 1, 0, 0, 0, 0), (8, .iload_n 3, 1, 0, 0, 0, 0), (9, .iadd, 1, 0, 0, 0, 0), (10, .laload, 1, 0, 0, 0, 0), (11, .lstore 4, 2, 0, 0, 0, 0), (13, .bipush 30, 2, 0, 0, 0, 0), (15, .istore 6, 2, 0, 0, 0, 0)],
  [(17, .iload 6, 2, 0, 0, 0, 0), (19, .ifCond .lt 36, 3, 0, 0, 0, 0), (22, .lload 4, 2, 0, 0, 0, 0), (24, .iload 6, 2, 0, 0, 0, 0), (26, .lshr, 1, 0, 0, 0, 0), (27, .l2i, 1, 0, 0, 0, 0), (28, .bipush 31, 2, 0, 0, 0, 0), (30, .iand, 1, 0, 0, 0, 0), (31, .istore 7, 2, 0, 0, 0, 0)],
  [(33, .iload 7, 2, 0, 0, 0, 0), (35, .ifCond .le 14, 3, 0, 0, 0, 0), (38, .aload_n 0, 1, 0, 0, 0, 0), (39, .bipush 97, 2, 0, 0, 0, 0), (41, .iload 7, 2, 0, 0, 0, 0), (43, .iadd, 1, 0, 0, 0, 0), (44, .iconst 1, 1, 0, 0, 0, 0), (45, .isub, 1, 0, 0, 0, 0), (46, .invokevirtual 40, 3, 99, 2, 10, 0)],
  [(49, .iinc 6 (-5), 3, 0, 0, 0, 0), (52, .goto (-35), 3, 0, 0, 0, 0), (55, .return_, 1, 0, 0, 0, 0)]]
/-- LostKeys$Tag.putName(LLostKeys$Town;II)V -/
def rx_m100 : rx_Md := (yX6_putName, cX6_putName, 8, none, 4, 1, 0, 0, rx_t100)
def rx_t101 : List (List rx_E) := [
  [(0, .iconst 0, 1, 0, 0, 0, 0), (1, .istore_n 2, 1, 0, 0, 0, 0), (2, .iload_n 2, 1, 0, 0, 0, 0), (3, .aload_n 1, 1, 0, 0, 0, 0), (4, .invokevirtual 65, 3, 280, 1, 3, 0), (7, .if_icmp .ge 18, 3, 0, 0, 0, 0), (10, .aload_n 0, 1, 0, 0, 0, 0), (11, .aload_n 1, 1, 0, 0, 0, 0), (12, .iload_n 2, 1, 0, 0, 0, 0), (13, .invokevirtual 70, 3, 276, 2, 3, 0)],
  [(16, .invokevirtual 40, 3, 99, 2, 10, 0), (19, .iinc 2 1, 3, 0, 0, 0, 0), (22, .goto (-20), 3, 0, 0, 0, 0), (25, .return_, 1, 0, 0, 0, 0)]]
/-- LostKeys$Tag.putText(Ljava/lang/String;)V -/
def rx_m101 : rx_Md := (yX6_putText, cX6_putText, 3, none, 2, 1, 0, 0, rx_t101)
def rx_t102 : List (List rx_E) := [
  [(0, .aload_n 0, 1, 0, 0, 0, 0), (1, .iconst 0, 1, 0, 0, 0, 0), (2, .putfield 15, 3, 6, 1, 0, 0), (5, .aload_n 0, 1, 0, 0, 0, 0), (6, .aload_n 1, 1, 0, 0, 0, 0), (7, .iconst 3, 1, 0, 0, 0, 0), (8, .iload_n 3, 1, 0, 0, 0, 0), (9, .invokevirtual 19, 3, 100, 4, 10, 0), (12, .aload_n 2, 1, 0, 0, 0, 0), (13, .getfield 23, 3, 5, 6, 4, 0)],
  [(16, .iload_n 3, 1, 0, 0, 0, 0), (17, .iaload, 1, 0, 0, 0, 0), (18, .istore 4, 2, 0, 0, 0, 0), (20, .iload 4, 2, 0, 0, 0, 0), (22, .iconst (-1), 1, 0, 0, 0, 0), (23, .if_icmp .eq 20, 3, 0, 0, 0, 0), (26, .aload_n 0, 1, 0, 0, 0, 0), (27, .ldc 29, 2, 2, 0, 2, 0), (29, .invokevirtual 31, 3, 101, 2, 10, 0)],
  [(32, .aload_n 0, 1, 0, 0, 0, 0), (33, .aload_n 1, 1, 0, 0, 0, 0), (34, .iconst 2, 1, 0, 0, 0, 0), (35, .iload 4, 2, 0, 0, 0, 0), (37, .invokevirtual 19, 3, 100, 4, 10, 0), (40, .goto 41, 3, 0, 0, 0, 0), (43, .aload_n 0, 1, 0, 0, 0, 0), (44, .ldc 35, 2, 4, 0, 2, 0), (46, .invokevirtual 31, 3, 101, 2, 10, 0)],
  [(49, .aload_n 0, 1, 0, 0, 0, 0), (50, .bipush 48, 2, 0, 0, 0, 0), (52, .aload_n 2, 1, 0, 0, 0, 0), (53, .getfield 37, 3, 5, 7, 4, 0), (56, .iload_n 3, 1, 0, 0, 0, 0), (57, .iaload, 1, 0, 0, 0, 0), (58, .iadd, 1, 0, 0, 0, 0), (59, .invokevirtual 40, 3, 99, 2, 10, 0), (62, .aload_n 0, 1, 0, 0, 0, 0), (63, .bipush 32, 2, 0, 0, 0, 0)],
  [(65, .invokevirtual 40, 3, 99, 2, 10, 0), (68, .aload_n 0, 1, 0, 0, 0, 0), (69, .bipush 48, 2, 0, 0, 0, 0), (71, .aload_n 2, 1, 0, 0, 0, 0), (72, .getfield 44, 3, 5, 8, 4, 0), (75, .iload_n 3, 1, 0, 0, 0, 0), (76, .iaload, 1, 0, 0, 0, 0), (77, .iadd, 1, 0, 0, 0, 0), (78, .invokevirtual 40, 3, 99, 2, 10, 0)],
  [(81, .aload_n 1, 1, 0, 0, 0, 0), (82, .aload_n 2, 1, 0, 0, 0, 0), (83, .getfield 47, 3, 5, 9, 4, 0), (86, .iload_n 3, 1, 0, 0, 0, 0), (87, .iaload, 1, 0, 0, 0, 0), (88, .invokevirtual 50, 3, 127, 2, 12, 0), (91, .invokestatic 56, 3, 19, 1, 0, 0), (94, .istore 5, 2, 0, 0, 0, 0)],
  [(96, .iload 5, 2, 0, 0, 0, 0), (98, .iconst (-1), 1, 0, 0, 0, 0), (99, .if_icmp .eq 17, 3, 0, 0, 0, 0), (102, .aload_n 0, 1, 0, 0, 0, 0), (103, .ldc 59, 2, 6, 0, 2, 0), (105, .invokevirtual 31, 3, 101, 2, 10, 0), (108, .aload_n 0, 1, 0, 0, 0, 0), (109, .aload_n 1, 1, 0, 0, 0, 0), (110, .iconst 1, 1, 0, 0, 0, 0), (111, .iload 5, 2, 0, 0, 0, 0)],
  [(113, .invokevirtual 19, 3, 100, 4, 10, 0), (116, .return_, 1, 0, 0, 0, 0)]]
/-- LostKeys$Tag.write(LLostKeys$Town;LLostKeys$State;I)V -/
def rx_m102 : rx_Md := (yX6_write, cX6_write, 6, none, 4, 1, 0, 0, rx_t102)
def rx_t103 : List (List rx_E) := [
  [(0, .aload_n 0, 1, 0, 0, 0, 0), (1, .invokespecial 3, 3, 0, 1, 1, 0), (4, .aload_n 0, 1, 0, 0, 0, 0), (5, .sipush 940, 3, 0, 0, 0, 0), (8, .newarray .byte, 2, 0, 0, 0, 0), (10, .putfield 9, 3, 7, 0, 4, 0), (13, .aload_n 0, 1, 0, 0, 0, 0), (14, .bipush 24, 2, 0, 0, 0, 0)],
  [(16, .newarray .long, 2, 0, 0, 0, 0), (18, .putfield 15, 3, 7, 1, 4, 0), (21, .lconst 0, 1, 0, 0, 0, 0), (22, .lstore_n 1, 1, 0, 0, 0, 0), (23, .iconst 0, 1, 0, 0, 0, 0), (24, .istore_n 3, 1, 0, 0, 0, 0), (25, .iconst 0, 1, 0, 0, 0, 0), (26, .istore 4, 2, 0, 0, 0, 0), (28, .iload 4, 2, 0, 0, 0, 0), (30, .ldc 19, 2, 0, 0, 2, 0)],
  [(32, .invokevirtual 21, 3, 280, 1, 3, 0), (35, .if_icmp .ge 59, 3, 0, 0, 0, 0), (38, .ldc 19, 2, 0, 0, 2, 0), (40, .iload 4, 2, 0, 0, 0, 0), (42, .invokevirtual 27, 3, 276, 2, 3, 0), (45, .istore 5, 2, 0, 0, 0, 0), (47, .iload 5, 2, 0, 0, 0, 0)],
  [(49, .bipush 32, 2, 0, 0, 0, 0), (51, .if_icmp .eq 19, 3, 0, 0, 0, 0), (54, .lload_n 1, 1, 0, 0, 0, 0), (55, .iconst 5, 1, 0, 0, 0, 0), (56, .lshl, 1, 0, 0, 0, 0), (57, .iload 5, 2, 0, 0, 0, 0), (59, .bipush 97, 2, 0, 0, 0, 0), (61, .isub, 1, 0, 0, 0, 0), (62, .iconst 1, 1, 0, 0, 0, 0), (63, .iadd, 1, 0, 0, 0, 0)],
  [(64, .i2l, 1, 0, 0, 0, 0), (65, .lor, 1, 0, 0, 0, 0), (66, .lstore_n 1, 1, 0, 0, 0, 0), (67, .goto 21, 3, 0, 0, 0, 0), (70, .iload_n 3, 1, 0, 0, 0, 0), (71, .bipush 24, 2, 0, 0, 0, 0), (73, .if_icmp .ge 15, 3, 0, 0, 0, 0), (76, .aload_n 0, 1, 0, 0, 0, 0), (77, .getfield 15, 3, 7, 1, 4, 0)],
  [(80, .iload_n 3, 1, 0, 0, 0, 0), (81, .lload_n 1, 1, 0, 0, 0, 0), (82, .lastore, 1, 0, 0, 0, 0), (83, .iinc 3 1, 3, 0, 0, 0, 0), (86, .lconst 0, 1, 0, 0, 0, 0), (87, .lstore_n 1, 1, 0, 0, 0, 0), (88, .iinc 4 1, 3, 0, 0, 0, 0), (91, .goto (-63), 3, 0, 0, 0, 0), (94, .return_, 1, 0, 0, 0, 0)]]
/-- LostKeys$Tape.<init>()V -/
def rx_m103 : rx_Md := (yX7_init, cX7_init, 6, none, 1, 2, 2, 964, rx_t103)
def rx_t104 : List (List rx_E) := [
  [(0, .aload_n 0, 1, 0, 0, 0, 0), (1, .getfield 59, 3, 7, 5, 0, 0), (4, .iconst 1, 1, 0, 0, 0, 0), (5, .if_icmp .ne 7, 3, 0, 0, 0, 0), (8, .iconst 1, 1, 0, 0, 0, 0), (9, .goto 4, 3, 0, 0, 0, 0), (12, .iconst 0, 1, 0, 0, 0, 0), (13, .ireturn, 1, 0, 0, 0, 0)]]
/-- LostKeys$Tape.atEnd()Z -/
def rx_m104 : rx_Md := (yX7_atEnd, cX7_atEnd, 1, (some .boolean), 1, 1, 0, 0, rx_t104)
def rx_t105 : List (List rx_E) := [
  [(0, .aload_n 0, 1, 0, 0, 0, 0), (1, .getfield 59, 3, 7, 5, 0, 0), (4, .iconst 2, 1, 0, 0, 0, 0), (5, .if_icmp .ne 15, 3, 0, 0, 0, 0), (8, .aload_n 0, 1, 0, 0, 0, 0), (9, .getfield 50, 3, 7, 8, 0, 0), (12, .iconst (-1), 1, 0, 0, 0, 0), (13, .if_icmp .ne 7, 3, 0, 0, 0, 0)],
  [(16, .iconst 1, 1, 0, 0, 0, 0), (17, .goto 4, 3, 0, 0, 0, 0), (20, .iconst 0, 1, 0, 0, 0, 0), (21, .ireturn, 1, 0, 0, 0, 0)]]
/-- LostKeys$Tape.atName()Z -/
def rx_m105 : rx_Md := (yX7_atName, cX7_atName, 1, (some .boolean), 1, 1, 0, 0, rx_t105)
def rx_t106 : List (List rx_E) := [
  [(0, .aload_n 0, 1, 0, 0, 0, 0), (1, .iload_n 1, 1, 0, 0, 0, 0), (2, .putfield 34, 3, 7, 3, 0, 0), (5, .aload_n 0, 1, 0, 0, 0, 0), (6, .iconst 0, 1, 0, 0, 0, 0), (7, .putfield 37, 3, 7, 4, 0, 0), (10, .aload_n 0, 1, 0, 0, 0, 0), (11, .iconst 0, 1, 0, 0, 0, 0), (12, .putfield 40, 3, 7, 13, 0, 0), (15, .aload_n 0, 1, 0, 0, 0, 0)],
  [(16, .invokevirtual 43, 3, 108, 1, 11, 0), (19, .return_, 1, 0, 0, 0, 0)]]
/-- LostKeys$Tape.begin(I)V -/
def rx_m106 : rx_Md := (yX7_begin, cX7_begin, 2, none, 2, 1, 0, 0, rx_t106)
def rx_t107 : List (List rx_E) := [
  [(0, .iload_n 1, 1, 0, 0, 0, 0), (1, .ifCond .lt 11, 3, 0, 0, 0, 0), (4, .iload_n 1, 1, 0, 0, 0, 0), (5, .aload_n 0, 1, 0, 0, 0, 0), (6, .getfield 31, 3, 7, 2, 0, 0), (9, .if_icmp .lt 7, 3, 0, 0, 0, 0), (12, .iconst (-1), 1, 0, 0, 0, 0), (13, .goto 13, 3, 0, 0, 0, 0)],
  [(16, .aload_n 0, 1, 0, 0, 0, 0), (17, .getfield 9, 3, 7, 0, 4, 0), (20, .iload_n 1, 1, 0, 0, 0, 0), (21, .baload, 1, 0, 0, 0, 0), (22, .sipush 255, 3, 0, 0, 0, 0), (25, .iand, 1, 0, 0, 0, 0), (26, .ireturn, 1, 0, 0, 0, 0)]]
/-- LostKeys$Tape.byteOf(I)I -/
def rx_m107 : rx_Md := (yX7_byteOf, cX7_byteOf, 2, (some .int), 2, 1, 0, 0, rx_t107)
def rx_t108 : List (List rx_E) := [
  [(0, .aload_n 0, 1, 0, 0, 0, 0), (1, .getfield 37, 3, 7, 4, 0, 0), (4, .aload_n 0, 1, 0, 0, 0, 0), (5, .getfield 31, 3, 7, 2, 0, 0), (8, .if_icmp .ge 44, 3, 0, 0, 0, 0), (11, .aload_n 0, 1, 0, 0, 0, 0), (12, .getfield 9, 3, 7, 0, 4, 0), (15, .aload_n 0, 1, 0, 0, 0, 0)],
  [(16, .getfield 37, 3, 7, 4, 0, 0), (19, .baload, 1, 0, 0, 0, 0), (20, .bipush 32, 2, 0, 0, 0, 0), (22, .if_icmp .eq 17, 3, 0, 0, 0, 0), (25, .aload_n 0, 1, 0, 0, 0, 0), (26, .getfield 9, 3, 7, 0, 4, 0), (29, .aload_n 0, 1, 0, 0, 0, 0), (30, .getfield 37, 3, 7, 4, 0, 0)],
  [(33, .baload, 1, 0, 0, 0, 0), (34, .bipush 10, 2, 0, 0, 0, 0), (36, .if_icmp .ne 16, 3, 0, 0, 0, 0), (39, .aload_n 0, 1, 0, 0, 0, 0), (40, .dup, 1, 0, 0, 0, 0), (41, .getfield 37, 3, 7, 4, 0, 0), (44, .iconst 1, 1, 0, 0, 0, 0), (45, .iadd, 1, 0, 0, 0, 0), (46, .putfield 37, 3, 7, 4, 0, 0)],
  [(49, .goto (-49), 3, 0, 0, 0, 0), (52, .aload_n 0, 1, 0, 0, 0, 0), (53, .lconst 0, 1, 0, 0, 0, 0), (54, .putfield 46, 3, 7, 7, 3, 0), (57, .aload_n 0, 1, 0, 0, 0, 0), (58, .iconst (-1), 1, 0, 0, 0, 0), (59, .putfield 50, 3, 7, 8, 0, 0), (62, .aload_n 0, 1, 0, 0, 0, 0), (63, .iconst (-1), 1, 0, 0, 0, 0)],
  [(64, .putfield 53, 3, 7, 9, 0, 0), (67, .aload_n 0, 1, 0, 0, 0, 0), (68, .iconst 0, 1, 0, 0, 0, 0), (69, .putfield 56, 3, 7, 10, 0, 0), (72, .aload_n 0, 1, 0, 0, 0, 0), (73, .getfield 37, 3, 7, 4, 0, 0), (76, .aload_n 0, 1, 0, 0, 0, 0), (77, .getfield 31, 3, 7, 2, 0, 0)],
  [(80, .if_icmp .ge 14, 3, 0, 0, 0, 0), (83, .aload_n 0, 1, 0, 0, 0, 0), (84, .getfield 37, 3, 7, 4, 0, 0), (87, .aload_n 0, 1, 0, 0, 0, 0), (88, .getfield 34, 3, 7, 3, 0, 0), (91, .if_icmp .lt 39, 3, 0, 0, 0, 0), (94, .aload_n 0, 1, 0, 0, 0, 0), (95, .aload_n 0, 1, 0, 0, 0, 0)],
  [(96, .getfield 31, 3, 7, 2, 0, 0), (99, .aload_n 0, 1, 0, 0, 0, 0), (100, .getfield 34, 3, 7, 3, 0, 0), (103, .if_icmp .le 7, 3, 0, 0, 0, 0), (106, .iconst 0, 1, 0, 0, 0, 0), (107, .goto 4, 3, 0, 0, 0, 0), (110, .iconst 1, 1, 0, 0, 0, 0), (111, .putfield 59, 3, 7, 5, 0, 0)],
  [(114, .aload_n 0, 1, 0, 0, 0, 0), (115, .aload_n 0, 1, 0, 0, 0, 0), (116, .getfield 31, 3, 7, 2, 0, 0), (119, .aload_n 0, 1, 0, 0, 0, 0), (120, .getfield 34, 3, 7, 3, 0, 0), (123, .invokestatic 62, 3, 0, 2, 4, 0), (126, .putfield 68, 3, 7, 6, 0, 0)],
  [(129, .return_, 1, 0, 0, 0, 0), (130, .aload_n 0, 1, 0, 0, 0, 0), (131, .aload_n 0, 1, 0, 0, 0, 0), (132, .getfield 37, 3, 7, 4, 0, 0), (135, .putfield 68, 3, 7, 6, 0, 0), (138, .aload_n 0, 1, 0, 0, 0, 0), (139, .invokevirtual 71, 3, 111, 1, 11, 0), (142, .aload_n 0, 1, 0, 0, 0, 0), (143, .getfield 37, 3, 7, 4, 0, 0)],
  [(146, .aload_n 0, 1, 0, 0, 0, 0), (147, .getfield 68, 3, 7, 6, 0, 0), (150, .if_icmp .ne 7, 3, 0, 0, 0, 0), (153, .aload_n 0, 1, 0, 0, 0, 0), (154, .invokevirtual 74, 3, 112, 1, 11, 0), (157, .aload_n 0, 1, 0, 0, 0, 0), (158, .getfield 59, 3, 7, 5, 0, 0)],
  [(161, .iconst 2, 1, 0, 0, 0, 0), (162, .if_icmp .ne 15, 3, 0, 0, 0, 0), (165, .aload_n 0, 1, 0, 0, 0, 0), (166, .aload_n 0, 1, 0, 0, 0, 0), (167, .aload_n 0, 1, 0, 0, 0, 0), (168, .getfield 46, 3, 7, 7, 3, 0), (171, .invokevirtual 77, 3, 109, 2, 11, 0), (174, .putfield 50, 3, 7, 8, 0, 0)],
  [(177, .return_, 1, 0, 0, 0, 0)]]
/-- LostKeys$Tape.move()V -/
def rx_m108 : rx_Md := (yX7_move, cX7_move, 1, none, 1, 1, 0, 0, rx_t108)
def rx_t109 : List (List rx_E) := [
  [(0, .iconst 0, 1, 0, 0, 0, 0), (1, .istore_n 3, 1, 0, 0, 0, 0), (2, .iload_n 3, 1, 0, 0, 0, 0), (3, .bipush 24, 2, 0, 0, 0, 0), (5, .if_icmp .ge 22, 3, 0, 0, 0, 0), (8, .aload_n 0, 1, 0, 0, 0, 0), (9, .getfield 15, 3, 7, 1, 4, 0), (12, .iload_n 3, 1, 0, 0, 0, 0), (13, .laload, 1, 0, 0, 0, 0), (14, .lload_n 1, 1, 0, 0, 0, 0), (15, .lcmp, 1, 0, 0, 0, 0)],
  [(16, .ifCond .ne 5, 3, 0, 0, 0, 0), (19, .iload_n 3, 1, 0, 0, 0, 0), (20, .ireturn, 1, 0, 0, 0, 0), (21, .iinc 3 1, 3, 0, 0, 0, 0), (24, .goto (-22), 3, 0, 0, 0, 0), (27, .iconst (-1), 1, 0, 0, 0, 0), (28, .ireturn, 1, 0, 0, 0, 0)]]
/-- LostKeys$Tape.placeInWords(J)I -/
def rx_m109 : rx_Md := (yX7_placeInWords, cX7_placeInWords, 4, (some .int), 2, 1, 0, 0, rx_t109)
def rx_t110 : List (List rx_E) := [
  [(0, .bipush 24, 2, 0, 0, 0, 0), (2, .istore_n 2, 1, 0, 0, 0, 0), (3, .iload_n 2, 1, 0, 0, 0, 0), (4, .ifCond .lt 42, 3, 0, 0, 0, 0), (7, .aload_n 0, 1, 0, 0, 0, 0), (8, .getfield 31, 3, 7, 2, 0, 0), (11, .sipush 940, 3, 0, 0, 0, 0), (14, .if_icmp .ge 32, 3, 0, 0, 0, 0)],
  [(17, .aload_n 0, 1, 0, 0, 0, 0), (18, .getfield 9, 3, 7, 0, 4, 0), (21, .aload_n 0, 1, 0, 0, 0, 0), (22, .getfield 31, 3, 7, 2, 0, 0), (25, .iload_n 1, 1, 0, 0, 0, 0), (26, .iload_n 2, 1, 0, 0, 0, 0), (27, .ishr, 1, 0, 0, 0, 0), (28, .i2b, 1, 0, 0, 0, 0), (29, .bastore, 1, 0, 0, 0, 0), (30, .aload_n 0, 1, 0, 0, 0, 0), (31, .dup, 1, 0, 0, 0, 0)],
  [(32, .getfield 31, 3, 7, 2, 0, 0), (35, .iconst 1, 1, 0, 0, 0, 0), (36, .iadd, 1, 0, 0, 0, 0), (37, .putfield 31, 3, 7, 2, 0, 0), (40, .iinc 2 (-8), 3, 0, 0, 0, 0), (43, .goto (-40), 3, 0, 0, 0, 0), (46, .return_, 1, 0, 0, 0, 0)]]
/-- LostKeys$Tape.putNumber(I)V -/
def rx_m110 : rx_Md := (yX7_putNumber, cX7_putNumber, 3, none, 2, 1, 0, 0, rx_t110)
def rx_t111 : List (List rx_E) := [
  [(0, .iconst 0, 1, 0, 0, 0, 0), (1, .istore_n 1, 1, 0, 0, 0, 0), (2, .iconst 0, 1, 0, 0, 0, 0), (3, .istore_n 2, 1, 0, 0, 0, 0), (4, .iconst 1, 1, 0, 0, 0, 0), (5, .istore_n 3, 1, 0, 0, 0, 0), (6, .iload_n 3, 1, 0, 0, 0, 0), (7, .ifCond .eq 126, 3, 0, 0, 0, 0), (10, .aload_n 0, 1, 0, 0, 0, 0), (11, .getfield 37, 3, 7, 4, 0, 0), (14, .aload_n 0, 1, 0, 0, 0, 0), (15, .getfield 31, 3, 7, 2, 0, 0)],
  [(18, .if_icmp .ge 115, 3, 0, 0, 0, 0), (21, .aload_n 0, 1, 0, 0, 0, 0), (22, .getfield 9, 3, 7, 0, 4, 0), (25, .aload_n 0, 1, 0, 0, 0, 0), (26, .getfield 37, 3, 7, 4, 0, 0), (29, .baload, 1, 0, 0, 0, 0), (30, .istore 4, 2, 0, 0, 0, 0)],
  [(32, .iload 4, 2, 0, 0, 0, 0), (34, .bipush 97, 2, 0, 0, 0, 0), (36, .if_icmp .lt 45, 3, 0, 0, 0, 0), (39, .iload 4, 2, 0, 0, 0, 0), (41, .bipush 122, 2, 0, 0, 0, 0), (43, .if_icmp .gt 38, 3, 0, 0, 0, 0), (46, .iinc 1 1, 3, 0, 0, 0, 0)],
  [(49, .aload_n 0, 1, 0, 0, 0, 0), (50, .aload_n 0, 1, 0, 0, 0, 0), (51, .getfield 46, 3, 7, 7, 3, 0), (54, .iconst 5, 1, 0, 0, 0, 0), (55, .lshl, 1, 0, 0, 0, 0), (56, .iload 4, 2, 0, 0, 0, 0), (58, .bipush 97, 2, 0, 0, 0, 0), (60, .isub, 1, 0, 0, 0, 0), (61, .iconst 1, 1, 0, 0, 0, 0), (62, .iadd, 1, 0, 0, 0, 0), (63, .i2l, 1, 0, 0, 0, 0)],
  [(64, .lor, 1, 0, 0, 0, 0), (65, .putfield 46, 3, 7, 7, 3, 0), (68, .aload_n 0, 1, 0, 0, 0, 0), (69, .dup, 1, 0, 0, 0, 0), (70, .getfield 37, 3, 7, 4, 0, 0), (73, .iconst 1, 1, 0, 0, 0, 0), (74, .iadd, 1, 0, 0, 0, 0), (75, .putfield 37, 3, 7, 4, 0, 0), (78, .goto 52, 3, 0, 0, 0, 0)],
  [(81, .iload 4, 2, 0, 0, 0, 0), (83, .bipush 48, 2, 0, 0, 0, 0), (85, .if_icmp .lt 43, 3, 0, 0, 0, 0), (88, .iload 4, 2, 0, 0, 0, 0), (90, .bipush 57, 2, 0, 0, 0, 0), (92, .if_icmp .gt 36, 3, 0, 0, 0, 0), (95, .iinc 2 1, 3, 0, 0, 0, 0)],
  [(98, .aload_n 0, 1, 0, 0, 0, 0), (99, .bipush 10, 2, 0, 0, 0, 0), (101, .aload_n 0, 1, 0, 0, 0, 0), (102, .getfield 56, 3, 7, 10, 0, 0), (105, .imul, 1, 0, 0, 0, 0), (106, .iload 4, 2, 0, 0, 0, 0), (108, .iadd, 1, 0, 0, 0, 0), (109, .bipush 48, 2, 0, 0, 0, 0), (111, .isub, 1, 0, 0, 0, 0)],
  [(112, .putfield 56, 3, 7, 10, 0, 0), (115, .aload_n 0, 1, 0, 0, 0, 0), (116, .dup, 1, 0, 0, 0, 0), (117, .getfield 37, 3, 7, 4, 0, 0), (120, .iconst 1, 1, 0, 0, 0, 0), (121, .iadd, 1, 0, 0, 0, 0), (122, .putfield 37, 3, 7, 4, 0, 0), (125, .goto 5, 3, 0, 0, 0, 0)],
  [(128, .iconst 0, 1, 0, 0, 0, 0), (129, .istore_n 3, 1, 0, 0, 0, 0), (130, .goto (-124), 3, 0, 0, 0, 0), (133, .iload_n 2, 1, 0, 0, 0, 0), (134, .ifCond .ne 17, 3, 0, 0, 0, 0), (137, .iload_n 1, 1, 0, 0, 0, 0), (138, .bipush 7, 2, 0, 0, 0, 0), (140, .if_icmp .gt 11, 3, 0, 0, 0, 0), (143, .aload_n 0, 1, 0, 0, 0, 0)],
  [(144, .iconst 2, 1, 0, 0, 0, 0), (145, .putfield 59, 3, 7, 5, 0, 0), (148, .goto 21, 3, 0, 0, 0, 0), (151, .aload_n 0, 1, 0, 0, 0, 0), (152, .iload_n 1, 1, 0, 0, 0, 0), (153, .ifCond .ne 12, 3, 0, 0, 0, 0), (156, .iload_n 2, 1, 0, 0, 0, 0), (157, .iconst 3, 1, 0, 0, 0, 0), (158, .if_icmp .gt 7, 3, 0, 0, 0, 0)],
  [(161, .iconst 3, 1, 0, 0, 0, 0), (162, .goto 4, 3, 0, 0, 0, 0), (165, .iconst 0, 1, 0, 0, 0, 0), (166, .putfield 59, 3, 7, 5, 0, 0), (169, .return_, 1, 0, 0, 0, 0)]]
/-- LostKeys$Tape.readRun()V -/
def rx_m111 : rx_Md := (yX7_readRun, cX7_readRun, 5, none, 1, 1, 0, 0, rx_t111)
def rx_t112 : List (List rx_E) := [
  [(0, .aload_n 0, 1, 0, 0, 0, 0), (1, .getfield 37, 3, 7, 4, 0, 0), (4, .aload_n 0, 1, 0, 0, 0, 0), (5, .getfield 31, 3, 7, 2, 0, 0), (8, .if_icmp .ge 15, 3, 0, 0, 0, 0), (11, .aload_n 0, 1, 0, 0, 0, 0), (12, .getfield 9, 3, 7, 0, 4, 0), (15, .aload_n 0, 1, 0, 0, 0, 0)],
  [(16, .getfield 37, 3, 7, 4, 0, 0), (19, .baload, 1, 0, 0, 0, 0), (20, .goto 4, 3, 0, 0, 0, 0), (23, .iconst (-1), 1, 0, 0, 0, 0), (24, .istore_n 1, 1, 0, 0, 0, 0), (25, .iload_n 1, 1, 0, 0, 0, 0), (26, .bipush 59, 2, 0, 0, 0, 0), (28, .if_icmp .eq 33, 3, 0, 0, 0, 0), (31, .iload_n 1, 1, 0, 0, 0, 0)],
  [(32, .bipush 60, 2, 0, 0, 0, 0), (34, .if_icmp .eq 27, 3, 0, 0, 0, 0), (37, .iload_n 1, 1, 0, 0, 0, 0), (38, .bipush 61, 2, 0, 0, 0, 0), (40, .if_icmp .eq 21, 3, 0, 0, 0, 0), (43, .iload_n 1, 1, 0, 0, 0, 0), (44, .bipush 62, 2, 0, 0, 0, 0), (46, .if_icmp .eq 15, 3, 0, 0, 0, 0)],
  [(49, .iload_n 1, 1, 0, 0, 0, 0), (50, .bipush 40, 2, 0, 0, 0, 0), (52, .if_icmp .eq 9, 3, 0, 0, 0, 0), (55, .iload_n 1, 1, 0, 0, 0, 0), (56, .bipush 41, 2, 0, 0, 0, 0), (58, .if_icmp .ne 7, 3, 0, 0, 0, 0), (61, .iconst 1, 1, 0, 0, 0, 0), (62, .goto 4, 3, 0, 0, 0, 0)],
  [(65, .iconst 0, 1, 0, 0, 0, 0), (66, .istore_n 2, 1, 0, 0, 0, 0), (67, .aload_n 0, 1, 0, 0, 0, 0), (68, .iload_n 2, 1, 0, 0, 0, 0), (69, .ifCond .eq 7, 3, 0, 0, 0, 0), (72, .iconst 4, 1, 0, 0, 0, 0), (73, .goto 4, 3, 0, 0, 0, 0), (76, .iconst 0, 1, 0, 0, 0, 0), (77, .putfield 59, 3, 7, 5, 0, 0)],
  [(80, .aload_n 0, 1, 0, 0, 0, 0), (81, .iload_n 2, 1, 0, 0, 0, 0), (82, .ifCond .eq 7, 3, 0, 0, 0, 0), (85, .iload_n 1, 1, 0, 0, 0, 0), (86, .goto 4, 3, 0, 0, 0, 0), (89, .iconst (-1), 1, 0, 0, 0, 0), (90, .putfield 53, 3, 7, 9, 0, 0), (93, .aload_n 0, 1, 0, 0, 0, 0), (94, .dup, 1, 0, 0, 0, 0), (95, .getfield 37, 3, 7, 4, 0, 0)],
  [(98, .iconst 1, 1, 0, 0, 0, 0), (99, .iadd, 1, 0, 0, 0, 0), (100, .putfield 37, 3, 7, 4, 0, 0), (103, .return_, 1, 0, 0, 0, 0)]]
/-- LostKeys$Tape.readSign()V -/
def rx_m112 : rx_Md := (yX7_readSign, cX7_readSign, 3, none, 1, 1, 0, 0, rx_t112)
def rx_t113 : List (List rx_E) := [
  [(0, .aload_n 0, 1, 0, 0, 0, 0), (1, .iload_n 1, 1, 0, 0, 0, 0), (2, .putfield 40, 3, 7, 13, 0, 0), (5, .iconst 0, 1, 0, 0, 0, 0), (6, .ireturn, 1, 0, 0, 0, 0)]]
/-- LostKeys$Tape.refuse(I)Z -/
def rx_m113 : rx_Md := (yX7_refuse, cX7_refuse, 2, (some .boolean), 2, 1, 0, 0, rx_t113)
def rx_t114 : List (List rx_E) := [
  [(0, .aload_n 0, 1, 0, 0, 0, 0), (1, .getfield 53, 3, 7, 9, 0, 0), (4, .bipush 60, 2, 0, 0, 0, 0), (6, .if_icmp .eq 27, 3, 0, 0, 0, 0), (9, .aload_n 0, 1, 0, 0, 0, 0), (10, .getfield 53, 3, 7, 9, 0, 0), (13, .bipush 61, 2, 0, 0, 0, 0), (15, .if_icmp .eq 18, 3, 0, 0, 0, 0)],
  [(18, .aload_n 0, 1, 0, 0, 0, 0), (19, .getfield 53, 3, 7, 9, 0, 0), (22, .bipush 62, 2, 0, 0, 0, 0), (24, .if_icmp .eq 9, 3, 0, 0, 0, 0), (27, .aload_n 0, 1, 0, 0, 0, 0), (28, .iconst 1, 1, 0, 0, 0, 0), (29, .invokevirtual 81, 3, 113, 2, 11, 0)],
  [(32, .ireturn, 1, 0, 0, 0, 0), (33, .aload_n 0, 1, 0, 0, 0, 0), (34, .aload_n 0, 1, 0, 0, 0, 0), (35, .getfield 53, 3, 7, 9, 0, 0), (38, .putfield 85, 3, 7, 12, 0, 0), (41, .aload_n 0, 1, 0, 0, 0, 0), (42, .invokevirtual 43, 3, 108, 1, 11, 0), (45, .iconst 1, 1, 0, 0, 0, 0), (46, .ireturn, 1, 0, 0, 0, 0)]]
/-- LostKeys$Tape.takeComparison()Z -/
def rx_m114 : rx_Md := (yX7_takeComparison, cX7_takeComparison, 1, (some .boolean), 1, 1, 0, 0, rx_t114)
def rx_t115 : List (List rx_E) := [
  [(0, .aload_n 0, 1, 0, 0, 0, 0), (1, .invokevirtual 91, 3, 105, 1, 11, 0), (4, .ifCond .ne 9, 3, 0, 0, 0, 0), (7, .aload_n 0, 1, 0, 0, 0, 0), (8, .iconst 1, 1, 0, 0, 0, 0), (9, .invokevirtual 81, 3, 113, 2, 11, 0), (12, .ireturn, 1, 0, 0, 0, 0), (13, .aload_n 1, 1, 0, 0, 0, 0), (14, .iload_n 2, 1, 0, 0, 0, 0), (15, .aload_n 0, 1, 0, 0, 0, 0)],
  [(16, .getfield 46, 3, 7, 7, 3, 0), (19, .invokevirtual 95, 3, 120, 3, 12, 0), (22, .ifCond .ne 9, 3, 0, 0, 0, 0), (25, .aload_n 0, 1, 0, 0, 0, 0), (26, .iconst 3, 1, 0, 0, 0, 0), (27, .invokevirtual 81, 3, 113, 2, 11, 0), (30, .ireturn, 1, 0, 0, 0, 0), (31, .aload_n 0, 1, 0, 0, 0, 0)],
  [(32, .invokevirtual 43, 3, 108, 1, 11, 0), (35, .iconst 1, 1, 0, 0, 0, 0), (36, .ireturn, 1, 0, 0, 0, 0)]]
/-- LostKeys$Tape.takeNewName(LLostKeys$Town;I)Z -/
def rx_m115 : rx_Md := (yX7_takeNewName, cX7_takeNewName, 3, (some .boolean), 3, 1, 0, 0, rx_t115)
def rx_t116 : List (List rx_E) := [
  [(0, .aload_n 0, 1, 0, 0, 0, 0), (1, .getfield 59, 3, 7, 5, 0, 0), (4, .iconst 3, 1, 0, 0, 0, 0), (5, .if_icmp .eq 9, 3, 0, 0, 0, 0), (8, .aload_n 0, 1, 0, 0, 0, 0), (9, .iconst 1, 1, 0, 0, 0, 0), (10, .invokevirtual 81, 3, 113, 2, 11, 0), (13, .ireturn, 1, 0, 0, 0, 0), (14, .aload_n 0, 1, 0, 0, 0, 0), (15, .getfield 56, 3, 7, 10, 0, 0)],
  [(18, .iload_n 1, 1, 0, 0, 0, 0), (19, .if_icmp .lt 11, 3, 0, 0, 0, 0), (22, .aload_n 0, 1, 0, 0, 0, 0), (23, .getfield 56, 3, 7, 10, 0, 0), (26, .iload_n 2, 1, 0, 0, 0, 0), (27, .if_icmp .le 9, 3, 0, 0, 0, 0), (30, .aload_n 0, 1, 0, 0, 0, 0), (31, .iconst 2, 1, 0, 0, 0, 0)],
  [(32, .invokevirtual 81, 3, 113, 2, 11, 0), (35, .ireturn, 1, 0, 0, 0, 0), (36, .aload_n 0, 1, 0, 0, 0, 0), (37, .aload_n 0, 1, 0, 0, 0, 0), (38, .getfield 56, 3, 7, 10, 0, 0), (41, .putfield 88, 3, 7, 11, 0, 0), (44, .aload_n 0, 1, 0, 0, 0, 0), (45, .invokevirtual 43, 3, 108, 1, 11, 0)],
  [(48, .iconst 1, 1, 0, 0, 0, 0), (49, .ireturn, 1, 0, 0, 0, 0)]]
/-- LostKeys$Tape.takeNumber(II)Z -/
def rx_m116 : rx_Md := (yX7_takeNumber, cX7_takeNumber, 3, (some .boolean), 3, 1, 0, 0, rx_t116)
def rx_t117 : List (List rx_E) := [
  [(0, .aload_n 0, 1, 0, 0, 0, 0), (1, .getfield 53, 3, 7, 9, 0, 0), (4, .iload_n 1, 1, 0, 0, 0, 0), (5, .if_icmp .eq 9, 3, 0, 0, 0, 0), (8, .aload_n 0, 1, 0, 0, 0, 0), (9, .iconst 1, 1, 0, 0, 0, 0), (10, .invokevirtual 81, 3, 113, 2, 11, 0), (13, .ireturn, 1, 0, 0, 0, 0), (14, .aload_n 0, 1, 0, 0, 0, 0), (15, .invokevirtual 43, 3, 108, 1, 11, 0)],
  [(18, .iconst 1, 1, 0, 0, 0, 0), (19, .ireturn, 1, 0, 0, 0, 0)]]
/-- LostKeys$Tape.takeSign(I)Z -/
def rx_m117 : rx_Md := (yX7_takeSign, cX7_takeSign, 2, (some .boolean), 2, 1, 0, 0, rx_t117)
def rx_t118 : List (List rx_E) := [
  [(0, .aload_n 0, 1, 0, 0, 0, 0), (1, .invokevirtual 91, 3, 105, 1, 11, 0), (4, .ifCond .ne 9, 3, 0, 0, 0, 0), (7, .aload_n 0, 1, 0, 0, 0, 0), (8, .iconst 1, 1, 0, 0, 0, 0), (9, .invokevirtual 81, 3, 113, 2, 11, 0), (12, .ireturn, 1, 0, 0, 0, 0), (13, .aload_n 0, 1, 0, 0, 0, 0), (14, .aload_n 1, 1, 0, 0, 0, 0), (15, .iload_n 2, 1, 0, 0, 0, 0)],
  [(16, .aload_n 0, 1, 0, 0, 0, 0), (17, .getfield 46, 3, 7, 7, 3, 0), (20, .invokevirtual 101, 3, 129, 3, 12, 0), (23, .putfield 88, 3, 7, 11, 0, 0), (26, .aload_n 0, 1, 0, 0, 0, 0), (27, .getfield 88, 3, 7, 11, 0, 0), (30, .iconst (-1), 1, 0, 0, 0, 0), (31, .if_icmp .eq 11, 3, 0, 0, 0, 0)],
  [(34, .aload_n 0, 1, 0, 0, 0, 0), (35, .getfield 88, 3, 7, 11, 0, 0), (38, .iload_n 3, 1, 0, 0, 0, 0), (39, .if_icmp .ne 9, 3, 0, 0, 0, 0), (42, .aload_n 0, 1, 0, 0, 0, 0), (43, .iconst 3, 1, 0, 0, 0, 0), (44, .invokevirtual 81, 3, 113, 2, 11, 0), (47, .ireturn, 1, 0, 0, 0, 0)],
  [(48, .aload_n 0, 1, 0, 0, 0, 0), (49, .invokevirtual 43, 3, 108, 1, 11, 0), (52, .iconst 1, 1, 0, 0, 0, 0), (53, .ireturn, 1, 0, 0, 0, 0)]]
/-- LostKeys$Tape.takeToldName(LLostKeys$Town;II)Z -/
def rx_m118 : rx_Md := (yX7_takeToldName, cX7_takeToldName, 4, (some .boolean), 4, 1, 0, 0, rx_t118)
def rx_t119 : List (List rx_E) := [
  [(0, .aload_n 0, 1, 0, 0, 0, 0), (1, .invokespecial 3, 3, 0, 1, 1, 0), (4, .aload_n 0, 1, 0, 0, 0, 0), (5, .iconst 4, 1, 0, 0, 0, 0), (6, .newarray .int, 2, 0, 0, 0, 0), (8, .putfield 9, 3, 8, 5, 4, 0), (11, .aload_n 0, 1, 0, 0, 0, 0), (12, .bipush 32, 2, 0, 0, 0, 0), (14, .newarray .long, 2, 0, 0, 0, 0)],
  [(16, .putfield 15, 3, 8, 6, 4, 0), (19, .aload_n 0, 1, 0, 0, 0, 0), (20, .bipush 6, 2, 0, 0, 0, 0), (22, .newarray .int, 2, 0, 0, 0, 0), (24, .putfield 19, 3, 8, 7, 4, 0), (27, .aload_n 0, 1, 0, 0, 0, 0), (28, .bipush 6, 2, 0, 0, 0, 0), (30, .newarray .int, 2, 0, 0, 0, 0)],
  [(32, .putfield 22, 3, 8, 8, 4, 0), (35, .aload_n 0, 1, 0, 0, 0, 0), (36, .bipush 6, 2, 0, 0, 0, 0), (38, .newarray .int, 2, 0, 0, 0, 0), (40, .putfield 25, 3, 8, 9, 4, 0), (43, .aload_n 0, 1, 0, 0, 0, 0), (44, .bipush 6, 2, 0, 0, 0, 0), (46, .newarray .int, 2, 0, 0, 0, 0)],
  [(48, .putfield 28, 3, 8, 10, 4, 0), (51, .aload_n 0, 1, 0, 0, 0, 0), (52, .bipush 6, 2, 0, 0, 0, 0), (54, .newarray .int, 2, 0, 0, 0, 0), (56, .putfield 31, 3, 8, 11, 4, 0), (59, .aload_n 0, 1, 0, 0, 0, 0), (60, .iconst 5, 1, 0, 0, 0, 0), (61, .newarray .int, 2, 0, 0, 0, 0), (63, .putfield 34, 3, 8, 13, 4, 0)],
  [(66, .aload_n 0, 1, 0, 0, 0, 0), (67, .iconst 5, 1, 0, 0, 0, 0), (68, .newarray .int, 2, 0, 0, 0, 0), (70, .putfield 37, 3, 8, 14, 4, 0), (73, .aload_n 0, 1, 0, 0, 0, 0), (74, .bipush 8, 2, 0, 0, 0, 0), (76, .newarray .int, 2, 0, 0, 0, 0), (78, .putfield 40, 3, 8, 15, 4, 0)],
  [(81, .aload_n 0, 1, 0, 0, 0, 0), (82, .bipush 8, 2, 0, 0, 0, 0), (84, .newarray .int, 2, 0, 0, 0, 0), (86, .putfield 43, 3, 8, 16, 4, 0), (89, .aload_n 0, 1, 0, 0, 0, 0), (90, .bipush 36, 2, 0, 0, 0, 0), (92, .newarray .int, 2, 0, 0, 0, 0), (94, .putfield 46, 3, 8, 17, 4, 0)],
  [(97, .aload_n 0, 1, 0, 0, 0, 0), (98, .invokevirtual 49, 3, 121, 1, 12, 0), (101, .aload_n 0, 1, 0, 0, 0, 0), (102, .invokevirtual 52, 3, 138, 1, 12, 0), (105, .return_, 1, 0, 0, 0, 0)]]
/-- LostKeys$Town.<init>()V -/
def rx_m119 : rx_Md := (yX8_init, cX8_init, 1, none, 1, 2, 12, 128, rx_t119)
def rx_t120 : List (List rx_E) := [
  [(0, .iconst 0, 1, 0, 0, 0, 0), (1, .istore 4, 2, 0, 0, 0, 0), (3, .iload 4, 2, 0, 0, 0, 0), (5, .iconst 4, 1, 0, 0, 0, 0), (6, .if_icmp .ge 22, 3, 0, 0, 0, 0), (9, .aload_n 0, 1, 0, 0, 0, 0), (10, .iload 4, 2, 0, 0, 0, 0), (12, .lload_n 2, 1, 0, 0, 0, 0), (13, .invokevirtual 152, 3, 129, 3, 12, 0)],
  [(16, .iconst (-1), 1, 0, 0, 0, 0), (17, .if_icmp .eq 5, 3, 0, 0, 0, 0), (20, .iconst 0, 1, 0, 0, 0, 0), (21, .ireturn, 1, 0, 0, 0, 0), (22, .iinc 4 1, 3, 0, 0, 0, 0), (25, .goto (-22), 3, 0, 0, 0, 0), (28, .aload_n 0, 1, 0, 0, 0, 0), (29, .getfield 15, 3, 8, 6, 4, 0)],
  [(32, .bipush 8, 2, 0, 0, 0, 0), (34, .iload_n 1, 1, 0, 0, 0, 0), (35, .imul, 1, 0, 0, 0, 0), (36, .aload_n 0, 1, 0, 0, 0, 0), (37, .getfield 9, 3, 8, 5, 4, 0), (40, .iload_n 1, 1, 0, 0, 0, 0), (41, .iaload, 1, 0, 0, 0, 0), (42, .iadd, 1, 0, 0, 0, 0), (43, .lload_n 2, 1, 0, 0, 0, 0), (44, .lastore, 1, 0, 0, 0, 0), (45, .aload_n 0, 1, 0, 0, 0, 0), (46, .getfield 9, 3, 8, 5, 4, 0)],
  [(49, .iload_n 1, 1, 0, 0, 0, 0), (50, .dup2, 1, 0, 0, 0, 0), (51, .iaload, 1, 0, 0, 0, 0), (52, .iconst 1, 1, 0, 0, 0, 0), (53, .iadd, 1, 0, 0, 0, 0), (54, .iastore, 1, 0, 0, 0, 0), (55, .iconst 1, 1, 0, 0, 0, 0), (56, .ireturn, 1, 0, 0, 0, 0)]]
/-- LostKeys$Town.addName(IJ)Z -/
def rx_m120 : rx_Md := (yX8_addName, cX8_addName, 5, (some .boolean), 3, 1, 0, 0, rx_t120)
def rx_t121 : List (List rx_E) := [
  [(0, .aload_n 0, 1, 0, 0, 0, 0), (1, .iconst 5, 1, 0, 0, 0, 0), (2, .putfield 55, 3, 8, 0, 0, 0), (5, .aload_n 0, 1, 0, 0, 0, 0), (6, .iconst 5, 1, 0, 0, 0, 0), (7, .putfield 59, 3, 8, 1, 0, 0), (10, .aload_n 0, 1, 0, 0, 0, 0), (11, .iconst 2, 1, 0, 0, 0, 0), (12, .putfield 62, 3, 8, 2, 0, 0), (15, .aload_n 0, 1, 0, 0, 0, 0)],
  [(16, .iconst 0, 1, 0, 0, 0, 0), (17, .putfield 65, 3, 8, 3, 2, 0), (20, .aload_n 0, 1, 0, 0, 0, 0), (21, .iconst 0, 1, 0, 0, 0, 0), (22, .putfield 69, 3, 8, 4, 2, 0), (25, .aload_n 0, 1, 0, 0, 0, 0), (26, .iconst 0, 1, 0, 0, 0, 0), (27, .putfield 72, 3, 8, 12, 0, 0), (30, .aload_n 0, 1, 0, 0, 0, 0), (31, .getfield 9, 3, 8, 5, 4, 0)],
  [(34, .iconst 0, 1, 0, 0, 0, 0), (35, .invokestatic 75, 3, 282, 2, 0, 0), (38, .return_, 1, 0, 0, 0, 0)]]
/-- LostKeys$Town.clear()V -/
def rx_m121 : rx_Md := (yX8_clear, cX8_clear, 1, none, 1, 1, 0, 0, rx_t121)
def rx_t122 : List (List rx_E) := [
  [(0, .aload_n 0, 1, 0, 0, 0, 0), (1, .aload_n 1, 1, 0, 0, 0, 0), (2, .getfield 55, 3, 8, 0, 0, 0), (5, .putfield 55, 3, 8, 0, 0, 0), (8, .aload_n 0, 1, 0, 0, 0, 0), (9, .aload_n 1, 1, 0, 0, 0, 0), (10, .getfield 59, 3, 8, 1, 0, 0), (13, .putfield 59, 3, 8, 1, 0, 0)],
  [(16, .aload_n 0, 1, 0, 0, 0, 0), (17, .aload_n 1, 1, 0, 0, 0, 0), (18, .getfield 62, 3, 8, 2, 0, 0), (21, .putfield 62, 3, 8, 2, 0, 0), (24, .aload_n 0, 1, 0, 0, 0, 0), (25, .aload_n 1, 1, 0, 0, 0, 0), (26, .getfield 72, 3, 8, 12, 0, 0), (29, .putfield 72, 3, 8, 12, 0, 0)],
  [(32, .aload_n 1, 1, 0, 0, 0, 0), (33, .getfield 9, 3, 8, 5, 4, 0), (36, .iconst 0, 1, 0, 0, 0, 0), (37, .aload_n 0, 1, 0, 0, 0, 0), (38, .getfield 9, 3, 8, 5, 4, 0), (41, .iconst 0, 1, 0, 0, 0, 0), (42, .iconst 4, 1, 0, 0, 0, 0), (43, .invokestatic 81, 3, 0, 5, 2, 0), (46, .aload_n 1, 1, 0, 0, 0, 0), (47, .getfield 15, 3, 8, 6, 4, 0)],
  [(50, .iconst 0, 1, 0, 0, 0, 0), (51, .aload_n 0, 1, 0, 0, 0, 0), (52, .getfield 15, 3, 8, 6, 4, 0), (55, .iconst 0, 1, 0, 0, 0, 0), (56, .bipush 32, 2, 0, 0, 0, 0), (58, .invokestatic 81, 3, 0, 5, 2, 0), (61, .aload_n 1, 1, 0, 0, 0, 0), (62, .getfield 19, 3, 8, 7, 4, 0)],
  [(65, .iconst 0, 1, 0, 0, 0, 0), (66, .aload_n 0, 1, 0, 0, 0, 0), (67, .getfield 19, 3, 8, 7, 4, 0), (70, .iconst 0, 1, 0, 0, 0, 0), (71, .bipush 6, 2, 0, 0, 0, 0), (73, .invokestatic 81, 3, 0, 5, 2, 0), (76, .aload_n 1, 1, 0, 0, 0, 0), (77, .getfield 22, 3, 8, 8, 4, 0)],
  [(80, .iconst 0, 1, 0, 0, 0, 0), (81, .aload_n 0, 1, 0, 0, 0, 0), (82, .getfield 22, 3, 8, 8, 4, 0), (85, .iconst 0, 1, 0, 0, 0, 0), (86, .bipush 6, 2, 0, 0, 0, 0), (88, .invokestatic 81, 3, 0, 5, 2, 0), (91, .aload_n 1, 1, 0, 0, 0, 0), (92, .getfield 25, 3, 8, 9, 4, 0), (95, .iconst 0, 1, 0, 0, 0, 0)],
  [(96, .aload_n 0, 1, 0, 0, 0, 0), (97, .getfield 25, 3, 8, 9, 4, 0), (100, .iconst 0, 1, 0, 0, 0, 0), (101, .bipush 6, 2, 0, 0, 0, 0), (103, .invokestatic 81, 3, 0, 5, 2, 0), (106, .aload_n 1, 1, 0, 0, 0, 0), (107, .getfield 28, 3, 8, 10, 4, 0), (110, .iconst 0, 1, 0, 0, 0, 0), (111, .aload_n 0, 1, 0, 0, 0, 0)],
  [(112, .getfield 28, 3, 8, 10, 4, 0), (115, .iconst 0, 1, 0, 0, 0, 0), (116, .bipush 6, 2, 0, 0, 0, 0), (118, .invokestatic 81, 3, 0, 5, 2, 0), (121, .aload_n 1, 1, 0, 0, 0, 0), (122, .getfield 31, 3, 8, 11, 4, 0), (125, .iconst 0, 1, 0, 0, 0, 0), (126, .aload_n 0, 1, 0, 0, 0, 0), (127, .getfield 31, 3, 8, 11, 4, 0)],
  [(130, .iconst 0, 1, 0, 0, 0, 0), (131, .bipush 6, 2, 0, 0, 0, 0), (133, .invokestatic 81, 3, 0, 5, 2, 0), (136, .aload_n 1, 1, 0, 0, 0, 0), (137, .getfield 34, 3, 8, 13, 4, 0), (140, .iconst 0, 1, 0, 0, 0, 0), (141, .aload_n 0, 1, 0, 0, 0, 0), (142, .getfield 34, 3, 8, 13, 4, 0)],
  [(145, .iconst 0, 1, 0, 0, 0, 0), (146, .iconst 5, 1, 0, 0, 0, 0), (147, .invokestatic 81, 3, 0, 5, 2, 0), (150, .aload_n 1, 1, 0, 0, 0, 0), (151, .getfield 37, 3, 8, 14, 4, 0), (154, .iconst 0, 1, 0, 0, 0, 0), (155, .aload_n 0, 1, 0, 0, 0, 0), (156, .getfield 37, 3, 8, 14, 4, 0), (159, .iconst 0, 1, 0, 0, 0, 0)],
  [(160, .iconst 5, 1, 0, 0, 0, 0), (161, .invokestatic 81, 3, 0, 5, 2, 0), (164, .aload_n 1, 1, 0, 0, 0, 0), (165, .getfield 40, 3, 8, 15, 4, 0), (168, .iconst 0, 1, 0, 0, 0, 0), (169, .aload_n 0, 1, 0, 0, 0, 0), (170, .getfield 40, 3, 8, 15, 4, 0), (173, .iconst 0, 1, 0, 0, 0, 0), (174, .bipush 8, 2, 0, 0, 0, 0)],
  [(176, .invokestatic 81, 3, 0, 5, 2, 0), (179, .aload_n 1, 1, 0, 0, 0, 0), (180, .getfield 43, 3, 8, 16, 4, 0), (183, .iconst 0, 1, 0, 0, 0, 0), (184, .aload_n 0, 1, 0, 0, 0, 0), (185, .getfield 43, 3, 8, 16, 4, 0), (188, .iconst 0, 1, 0, 0, 0, 0), (189, .bipush 8, 2, 0, 0, 0, 0), (191, .invokestatic 81, 3, 0, 5, 2, 0)],
  [(194, .aload_n 1, 1, 0, 0, 0, 0), (195, .getfield 46, 3, 8, 17, 4, 0), (198, .iconst 0, 1, 0, 0, 0, 0), (199, .aload_n 0, 1, 0, 0, 0, 0), (200, .getfield 46, 3, 8, 17, 4, 0), (203, .iconst 0, 1, 0, 0, 0, 0), (204, .bipush 36, 2, 0, 0, 0, 0), (206, .invokestatic 81, 3, 0, 5, 2, 0)],
  [(209, .return_, 1, 0, 0, 0, 0)]]
/-- LostKeys$Town.copy(LLostKeys$Town;)V -/
def rx_m122 : rx_Md := (yX8_copy, cX8_copy, 2, none, 2, 1, 0, 0, rx_t122)
def rx_t123 : List (List rx_E) := [
  [(0, .iconst 0, 1, 0, 0, 0, 0), (1, .istore_n 2, 1, 0, 0, 0, 0), (2, .iload_n 2, 1, 0, 0, 0, 0), (3, .aload_n 0, 1, 0, 0, 0, 0), (4, .getfield 59, 3, 8, 1, 0, 0), (7, .if_icmp .ge 42, 3, 0, 0, 0, 0), (10, .iconst 0, 1, 0, 0, 0, 0), (11, .istore_n 3, 1, 0, 0, 0, 0), (12, .iload_n 3, 1, 0, 0, 0, 0), (13, .aload_n 0, 1, 0, 0, 0, 0), (14, .getfield 55, 3, 8, 0, 0, 0)],
  [(17, .if_icmp .ge 26, 3, 0, 0, 0, 0), (20, .aload_n 0, 1, 0, 0, 0, 0), (21, .iload_n 3, 1, 0, 0, 0, 0), (22, .iload_n 2, 1, 0, 0, 0, 0), (23, .invokevirtual 165, 3, 128, 3, 12, 0), (26, .iload_n 1, 1, 0, 0, 0, 0), (27, .if_icmp .ne 10, 3, 0, 0, 0, 0), (30, .bipush 6, 2, 0, 0, 0, 0)],
  [(32, .iload_n 2, 1, 0, 0, 0, 0), (33, .imul, 1, 0, 0, 0, 0), (34, .iload_n 3, 1, 0, 0, 0, 0), (35, .iadd, 1, 0, 0, 0, 0), (36, .ireturn, 1, 0, 0, 0, 0), (37, .iinc 3 1, 3, 0, 0, 0, 0), (40, .goto (-28), 3, 0, 0, 0, 0), (43, .iinc 2 1, 3, 0, 0, 0, 0), (46, .goto (-44), 3, 0, 0, 0, 0)],
  [(49, .iconst (-1), 1, 0, 0, 0, 0), (50, .ireturn, 1, 0, 0, 0, 0)]]
/-- LostKeys$Town.firstCellNearestTo(I)I -/
def rx_m123 : rx_Md := (yX8_firstCellNearestTo, cX8_firstCellNearestTo, 4, (some .int), 2, 1, 0, 0, rx_t123)
def rx_t124 : List (List rx_E) := [
  [(0, .iconst 0, 1, 0, 0, 0, 0), (1, .istore_n 3, 1, 0, 0, 0, 0), (2, .iload_n 3, 1, 0, 0, 0, 0), (3, .aload_n 0, 1, 0, 0, 0, 0), (4, .getfield 9, 3, 8, 5, 4, 0), (7, .iconst 1, 1, 0, 0, 0, 0), (8, .iaload, 1, 0, 0, 0, 0), (9, .if_icmp .ge 31, 3, 0, 0, 0, 0), (12, .aload_n 0, 1, 0, 0, 0, 0), (13, .getfield 25, 3, 8, 9, 4, 0)],
  [(16, .iload_n 3, 1, 0, 0, 0, 0), (17, .iaload, 1, 0, 0, 0, 0), (18, .iload_n 1, 1, 0, 0, 0, 0), (19, .if_icmp .ne 15, 3, 0, 0, 0, 0), (22, .aload_n 0, 1, 0, 0, 0, 0), (23, .getfield 28, 3, 8, 10, 4, 0), (26, .iload_n 3, 1, 0, 0, 0, 0), (27, .iaload, 1, 0, 0, 0, 0), (28, .iload_n 2, 1, 0, 0, 0, 0), (29, .if_icmp .ne 5, 3, 0, 0, 0, 0)],
  [(32, .iload_n 3, 1, 0, 0, 0, 0), (33, .ireturn, 1, 0, 0, 0, 0), (34, .iinc 3 1, 3, 0, 0, 0, 0), (37, .goto (-35), 3, 0, 0, 0, 0), (40, .iconst (-1), 1, 0, 0, 0, 0), (41, .ireturn, 1, 0, 0, 0, 0)]]
/-- LostKeys$Town.firstLockIn(II)I -/
def rx_m124 : rx_Md := (yX8_firstLockIn, cX8_firstLockIn, 4, (some .int), 3, 1, 0, 0, rx_t124)
def rx_t125 : List (List rx_E) := [
  [(0, .iload_n 2, 1, 0, 0, 0, 0), (1, .ifCond .lt 17, 3, 0, 0, 0, 0), (4, .iload_n 2, 1, 0, 0, 0, 0), (5, .aload_n 0, 1, 0, 0, 0, 0), (6, .getfield 9, 3, 8, 5, 4, 0), (9, .iload_n 1, 1, 0, 0, 0, 0), (10, .iaload, 1, 0, 0, 0, 0), (11, .if_icmp .ge 7, 3, 0, 0, 0, 0), (14, .iconst 1, 1, 0, 0, 0, 0), (15, .goto 4, 3, 0, 0, 0, 0)],
  [(18, .iconst 0, 1, 0, 0, 0, 0), (19, .ireturn, 1, 0, 0, 0, 0)]]
/-- LostKeys$Town.has(II)Z -/
def rx_m125 : rx_Md := (yX8_has, cX8_has, 3, (some .boolean), 3, 1, 0, 0, rx_t125)
def rx_t126 : List (List rx_E) := [
  [(0, .iload_n 1, 1, 0, 0, 0, 0), (1, .ifCond .lt 27, 3, 0, 0, 0, 0), (4, .iload_n 1, 1, 0, 0, 0, 0), (5, .aload_n 0, 1, 0, 0, 0, 0), (6, .getfield 55, 3, 8, 0, 0, 0), (9, .if_icmp .ge 19, 3, 0, 0, 0, 0), (12, .iload_n 2, 1, 0, 0, 0, 0), (13, .ifCond .lt 15, 3, 0, 0, 0, 0)],
  [(16, .iload_n 2, 1, 0, 0, 0, 0), (17, .aload_n 0, 1, 0, 0, 0, 0), (18, .getfield 59, 3, 8, 1, 0, 0), (21, .if_icmp .ge 7, 3, 0, 0, 0, 0), (24, .iconst 1, 1, 0, 0, 0, 0), (25, .goto 4, 3, 0, 0, 0, 0), (28, .iconst 0, 1, 0, 0, 0, 0), (29, .ireturn, 1, 0, 0, 0, 0)]]
/-- LostKeys$Town.hasCell(II)Z -/
def rx_m126 : rx_Md := (yX8_hasCell, cX8_hasCell, 3, (some .boolean), 3, 1, 0, 0, rx_t126)
def rx_t127 : List (List rx_E) := [
  [(0, .iconst 0, 1, 0, 0, 0, 0), (1, .istore_n 2, 1, 0, 0, 0, 0), (2, .iconst 0, 1, 0, 0, 0, 0), (3, .istore_n 3, 1, 0, 0, 0, 0), (4, .iload_n 3, 1, 0, 0, 0, 0), (5, .aload_n 0, 1, 0, 0, 0, 0), (6, .getfield 9, 3, 8, 5, 4, 0), (9, .iconst 1, 1, 0, 0, 0, 0), (10, .iaload, 1, 0, 0, 0, 0), (11, .if_icmp .ge 25, 3, 0, 0, 0, 0), (14, .aload_n 0, 1, 0, 0, 0, 0), (15, .getfield 31, 3, 8, 11, 4, 0)],
  [(18, .iload_n 3, 1, 0, 0, 0, 0), (19, .iaload, 1, 0, 0, 0, 0), (20, .iload_n 1, 1, 0, 0, 0, 0), (21, .if_icmp .ne 9, 3, 0, 0, 0, 0), (24, .iload_n 2, 1, 0, 0, 0, 0), (25, .iconst 1, 1, 0, 0, 0, 0), (26, .iload_n 3, 1, 0, 0, 0, 0), (27, .ishl, 1, 0, 0, 0, 0), (28, .ior, 1, 0, 0, 0, 0), (29, .istore_n 2, 1, 0, 0, 0, 0), (30, .iinc 3 1, 3, 0, 0, 0, 0)],
  [(33, .goto (-29), 3, 0, 0, 0, 0), (36, .iload_n 2, 1, 0, 0, 0, 0), (37, .ireturn, 1, 0, 0, 0, 0)]]
/-- LostKeys$Town.locksFor(I)I -/
def rx_m127 : rx_Md := (yX8_locksFor, cX8_locksFor, 4, (some .int), 2, 1, 0, 0, rx_t127)
def rx_t128 : List (List rx_E) := [
  [(0, .aload_n 0, 1, 0, 0, 0, 0), (1, .iload_n 1, 1, 0, 0, 0, 0), (2, .iload_n 2, 1, 0, 0, 0, 0), (3, .invokevirtual 162, 3, 126, 3, 12, 0), (6, .ifCond .eq 17, 3, 0, 0, 0, 0), (9, .aload_n 0, 1, 0, 0, 0, 0), (10, .getfield 46, 3, 8, 17, 4, 0), (13, .bipush 6, 2, 0, 0, 0, 0), (15, .iload_n 2, 1, 0, 0, 0, 0)],
  [(16, .imul, 1, 0, 0, 0, 0), (17, .iload_n 1, 1, 0, 0, 0, 0), (18, .iadd, 1, 0, 0, 0, 0), (19, .iaload, 1, 0, 0, 0, 0), (20, .goto 4, 3, 0, 0, 0, 0), (23, .iconst (-1), 1, 0, 0, 0, 0), (24, .ireturn, 1, 0, 0, 0, 0)]]
/-- LostKeys$Town.nearestTo(II)I -/
def rx_m128 : rx_Md := (yX8_nearestTo, cX8_nearestTo, 3, (some .int), 3, 1, 0, 0, rx_t128)
def rx_t129 : List (List rx_E) := [
  [(0, .iconst 0, 1, 0, 0, 0, 0), (1, .istore 4, 2, 0, 0, 0, 0), (3, .iload 4, 2, 0, 0, 0, 0), (5, .aload_n 0, 1, 0, 0, 0, 0), (6, .getfield 9, 3, 8, 5, 4, 0), (9, .iload_n 1, 1, 0, 0, 0, 0), (10, .iaload, 1, 0, 0, 0, 0), (11, .if_icmp .ge 29, 3, 0, 0, 0, 0), (14, .aload_n 0, 1, 0, 0, 0, 0), (15, .getfield 15, 3, 8, 6, 4, 0)],
  [(18, .bipush 8, 2, 0, 0, 0, 0), (20, .iload_n 1, 1, 0, 0, 0, 0), (21, .imul, 1, 0, 0, 0, 0), (22, .iload 4, 2, 0, 0, 0, 0), (24, .iadd, 1, 0, 0, 0, 0), (25, .laload, 1, 0, 0, 0, 0), (26, .lload_n 2, 1, 0, 0, 0, 0), (27, .lcmp, 1, 0, 0, 0, 0), (28, .ifCond .ne 6, 3, 0, 0, 0, 0), (31, .iload 4, 2, 0, 0, 0, 0)],
  [(33, .ireturn, 1, 0, 0, 0, 0), (34, .iinc 4 1, 3, 0, 0, 0, 0), (37, .goto (-34), 3, 0, 0, 0, 0), (40, .iconst (-1), 1, 0, 0, 0, 0), (41, .ireturn, 1, 0, 0, 0, 0)]]
/-- LostKeys$Town.numberOf(IJ)I -/
def rx_m129 : rx_Md := (yX8_numberOf, cX8_numberOf, 5, (some .int), 3, 1, 0, 0, rx_t129)
def rx_t130 : List (List rx_E) := [
  [(0, .aload_n 0, 1, 0, 0, 0, 0), (1, .invokevirtual 49, 3, 121, 1, 12, 0), (4, .aload_n 1, 1, 0, 0, 0, 0), (5, .sipush 900, 3, 0, 0, 0, 0), (8, .invokevirtual 87, 3, 106, 2, 11, 0), (11, .iconst 0, 1, 0, 0, 0, 0), (12, .istore_n 2, 1, 0, 0, 0, 0), (13, .iload_n 2, 1, 0, 0, 0, 0), (14, .sipush 900, 3, 0, 0, 0, 0)],
  [(17, .if_icmp .ge 41, 3, 0, 0, 0, 0), (20, .aload_n 1, 1, 0, 0, 0, 0), (21, .invokevirtual 93, 3, 104, 1, 11, 0), (24, .ifCond .eq 9, 3, 0, 0, 0, 0), (27, .aload_n 0, 1, 0, 0, 0, 0), (28, .invokevirtual 52, 3, 138, 1, 12, 0), (31, .iload_n 2, 1, 0, 0, 0, 0)],
  [(32, .ireturn, 1, 0, 0, 0, 0), (33, .aload_n 0, 1, 0, 0, 0, 0), (34, .aload_n 1, 1, 0, 0, 0, 0), (35, .invokevirtual 97, 3, 134, 2, 12, 0), (38, .ifCond .eq 12, 3, 0, 0, 0, 0), (41, .aload_n 1, 1, 0, 0, 0, 0), (42, .bipush 59, 2, 0, 0, 0, 0), (44, .invokevirtual 101, 3, 117, 2, 11, 0), (47, .ifCond .ne 5, 3, 0, 0, 0, 0)],
  [(50, .iconst (-1), 1, 0, 0, 0, 0), (51, .ireturn, 1, 0, 0, 0, 0), (52, .iinc 2 1, 3, 0, 0, 0, 0), (55, .goto (-42), 3, 0, 0, 0, 0), (58, .iconst (-1), 1, 0, 0, 0, 0), (59, .ireturn, 1, 0, 0, 0, 0)]]
/-- LostKeys$Town.read(LLostKeys$Tape;)I -/
def rx_m130 : rx_Md := (yX8_read, cX8_read, 3, (some .int), 2, 1, 0, 0, rx_t130)
def rx_t131 : List (List rx_E) := [
  [(0, .iload 4, 2, 0, 0, 0, 0), (2, .ifCond .lt 31, 3, 0, 0, 0, 0), (5, .iload 4, 2, 0, 0, 0, 0), (7, .aload_n 2, 1, 0, 0, 0, 0), (8, .arraylength, 1, 0, 0, 0, 0), (9, .if_icmp .ge 24, 3, 0, 0, 0, 0), (12, .iload 4, 2, 0, 0, 0, 0), (14, .aload_n 3, 1, 0, 0, 0, 0), (15, .arraylength, 1, 0, 0, 0, 0)],
  [(16, .if_icmp .ge 17, 3, 0, 0, 0, 0), (19, .aload_n 1, 1, 0, 0, 0, 0), (20, .iconst 0, 1, 0, 0, 0, 0), (21, .aload_n 0, 1, 0, 0, 0, 0), (22, .getfield 55, 3, 8, 0, 0, 0), (25, .iconst 1, 1, 0, 0, 0, 0), (26, .isub, 1, 0, 0, 0, 0), (27, .invokevirtual 137, 3, 116, 3, 11, 0), (30, .ifCond .ne 5, 3, 0, 0, 0, 0)],
  [(33, .iconst 0, 1, 0, 0, 0, 0), (34, .ireturn, 1, 0, 0, 0, 0), (35, .aload_n 2, 1, 0, 0, 0, 0), (36, .iload 4, 2, 0, 0, 0, 0), (38, .aload_n 1, 1, 0, 0, 0, 0), (39, .getfield 141, 3, 7, 11, 0, 0), (42, .iastore, 1, 0, 0, 0, 0), (43, .aload_n 1, 1, 0, 0, 0, 0), (44, .iconst 0, 1, 0, 0, 0, 0), (45, .aload_n 0, 1, 0, 0, 0, 0), (46, .getfield 59, 3, 8, 1, 0, 0)],
  [(49, .iconst 1, 1, 0, 0, 0, 0), (50, .isub, 1, 0, 0, 0, 0), (51, .invokevirtual 137, 3, 116, 3, 11, 0), (54, .ifCond .ne 5, 3, 0, 0, 0, 0), (57, .iconst 0, 1, 0, 0, 0, 0), (58, .ireturn, 1, 0, 0, 0, 0), (59, .aload_n 3, 1, 0, 0, 0, 0), (60, .iload 4, 2, 0, 0, 0, 0), (62, .aload_n 1, 1, 0, 0, 0, 0), (63, .getfield 141, 3, 7, 11, 0, 0)],
  [(66, .iastore, 1, 0, 0, 0, 0), (67, .iconst 1, 1, 0, 0, 0, 0), (68, .ireturn, 1, 0, 0, 0, 0)]]
/-- LostKeys$Town.readCell(LLostKeys$Tape;[I[II)Z -/
def rx_m131 : rx_Md := (yX8_readCell, cX8_readCell, 5, (some .boolean), 5, 1, 0, 0, rx_t131)
def rx_t132 : List (List rx_E) := [
  [(0, .aload_n 0, 1, 0, 0, 0, 0), (1, .getfield 65, 3, 8, 3, 2, 0), (4, .ifCond .ne 21, 3, 0, 0, 0, 0), (7, .aload_n 0, 1, 0, 0, 0, 0), (8, .getfield 9, 3, 8, 5, 4, 0), (11, .iconst 1, 1, 0, 0, 0, 0), (12, .iaload, 1, 0, 0, 0, 0), (13, .ifCond .gt 12, 3, 0, 0, 0, 0)],
  [(16, .aload_n 0, 1, 0, 0, 0, 0), (17, .getfield 9, 3, 8, 5, 4, 0), (20, .iconst 2, 1, 0, 0, 0, 0), (21, .iaload, 1, 0, 0, 0, 0), (22, .ifCond .le 9, 3, 0, 0, 0, 0), (25, .aload_n 1, 1, 0, 0, 0, 0), (26, .iconst 3, 1, 0, 0, 0, 0), (27, .invokevirtual 111, 3, 113, 2, 11, 0), (30, .ireturn, 1, 0, 0, 0, 0), (31, .aload_n 0, 1, 0, 0, 0, 0)],
  [(32, .iconst 1, 1, 0, 0, 0, 0), (33, .putfield 65, 3, 8, 3, 2, 0), (36, .aload_n 1, 1, 0, 0, 0, 0), (37, .invokevirtual 114, 3, 108, 1, 11, 0), (40, .aload_n 1, 1, 0, 0, 0, 0), (41, .iconst 2, 1, 0, 0, 0, 0), (42, .bipush 6, 2, 0, 0, 0, 0), (44, .invokevirtual 137, 3, 116, 3, 11, 0), (47, .ifCond .ne 5, 3, 0, 0, 0, 0)],
  [(50, .iconst 0, 1, 0, 0, 0, 0), (51, .ireturn, 1, 0, 0, 0, 0), (52, .aload_n 0, 1, 0, 0, 0, 0), (53, .aload_n 1, 1, 0, 0, 0, 0), (54, .getfield 141, 3, 7, 11, 0, 0), (57, .putfield 55, 3, 8, 0, 0, 0), (60, .aload_n 1, 1, 0, 0, 0, 0), (61, .iconst 2, 1, 0, 0, 0, 0), (62, .bipush 6, 2, 0, 0, 0, 0)],
  [(64, .invokevirtual 137, 3, 116, 3, 11, 0), (67, .ifCond .ne 5, 3, 0, 0, 0, 0), (70, .iconst 0, 1, 0, 0, 0, 0), (71, .ireturn, 1, 0, 0, 0, 0), (72, .aload_n 0, 1, 0, 0, 0, 0), (73, .aload_n 1, 1, 0, 0, 0, 0), (74, .getfield 141, 3, 7, 11, 0, 0), (77, .putfield 59, 3, 8, 1, 0, 0)],
  [(80, .iconst 1, 1, 0, 0, 0, 0), (81, .ireturn, 1, 0, 0, 0, 0)]]
/-- LostKeys$Town.readField(LLostKeys$Tape;)Z -/
def rx_m132 : rx_Md := (yX8_readField, cX8_readField, 2, (some .boolean), 2, 1, 0, 0, rx_t132)
def rx_t133 : List (List rx_E) := [
  [(0, .aload_n 1, 1, 0, 0, 0, 0), (1, .invokevirtual 114, 3, 108, 1, 11, 0), (4, .iload_n 2, 1, 0, 0, 0, 0), (5, .bipush 8, 2, 0, 0, 0, 0), (7, .if_icmp .ge 22, 3, 0, 0, 0, 0), (10, .aload_n 1, 1, 0, 0, 0, 0), (11, .aload_n 0, 1, 0, 0, 0, 0), (12, .iconst 3, 1, 0, 0, 0, 0), (13, .invokevirtual 117, 3, 115, 3, 11, 0)],
  [(16, .ifCond .eq 13, 3, 0, 0, 0, 0), (19, .aload_n 1, 1, 0, 0, 0, 0), (20, .aload_n 0, 1, 0, 0, 0, 0), (21, .iconst 2, 1, 0, 0, 0, 0), (22, .iconst (-1), 1, 0, 0, 0, 0), (23, .invokevirtual 144, 3, 118, 4, 11, 0), (26, .ifCond .ne 5, 3, 0, 0, 0, 0), (29, .iconst 0, 1, 0, 0, 0, 0), (30, .ireturn, 1, 0, 0, 0, 0), (31, .aload_n 0, 1, 0, 0, 0, 0)],
  [(32, .getfield 40, 3, 8, 15, 4, 0), (35, .iload_n 2, 1, 0, 0, 0, 0), (36, .aload_n 1, 1, 0, 0, 0, 0), (37, .getfield 141, 3, 7, 11, 0, 0), (40, .iastore, 1, 0, 0, 0, 0), (41, .aload_n 1, 1, 0, 0, 0, 0), (42, .iconst 0, 1, 0, 0, 0, 0), (43, .bipush 63, 2, 0, 0, 0, 0), (45, .invokevirtual 137, 3, 116, 3, 11, 0)],
  [(48, .ifCond .ne 5, 3, 0, 0, 0, 0), (51, .iconst 0, 1, 0, 0, 0, 0), (52, .ireturn, 1, 0, 0, 0, 0), (53, .aload_n 0, 1, 0, 0, 0, 0), (54, .getfield 43, 3, 8, 16, 4, 0), (57, .iload_n 2, 1, 0, 0, 0, 0), (58, .aload_n 1, 1, 0, 0, 0, 0), (59, .getfield 141, 3, 7, 11, 0, 0), (62, .iastore, 1, 0, 0, 0, 0), (63, .iconst 1, 1, 0, 0, 0, 0)],
  [(64, .ireturn, 1, 0, 0, 0, 0)]]
/-- LostKeys$Town.readKey(LLostKeys$Tape;I)Z -/
def rx_m133 : rx_Md := (yX8_readKey, cX8_readKey, 3, (some .boolean), 3, 1, 0, 0, rx_t133)
def rx_t134 : List (List rx_E) := [
  [(0, .aload_n 1, 1, 0, 0, 0, 0), (1, .getfield 105, 3, 7, 8, 0, 0), (4, .istore_n 2, 1, 0, 0, 0, 0), (5, .iload_n 2, 1, 0, 0, 0, 0), (6, .ifCond .lt 28, 3, 0, 0, 0, 0), (9, .iload_n 2, 1, 0, 0, 0, 0), (10, .iconst 3, 1, 0, 0, 0, 0), (11, .if_icmp .gt 23, 3, 0, 0, 0, 0), (14, .aload_n 0, 1, 0, 0, 0, 0), (15, .getfield 9, 3, 8, 5, 4, 0)],
  [(18, .iload_n 2, 1, 0, 0, 0, 0), (19, .iaload, 1, 0, 0, 0, 0), (20, .getstatic 108, 3, 8, 0, 2, 0), (23, .iload_n 2, 1, 0, 0, 0, 0), (24, .iaload, 1, 0, 0, 0, 0), (25, .if_icmp .lt 9, 3, 0, 0, 0, 0), (28, .aload_n 1, 1, 0, 0, 0, 0), (29, .iconst 4, 1, 0, 0, 0, 0), (30, .invokevirtual 111, 3, 113, 2, 11, 0)],
  [(33, .ireturn, 1, 0, 0, 0, 0), (34, .iload_n 2, 1, 0, 0, 0, 0), (35, .tableswitch 96 0 5 #[37, 48, 60, 72, 84, 90], 37, 0, 0, 0, 0)],
  [],
  [(72, .aload_n 1, 1, 0, 0, 0, 0), (73, .invokevirtual 114, 3, 108, 1, 11, 0), (76, .aload_n 1, 1, 0, 0, 0, 0), (77, .aload_n 0, 1, 0, 0, 0, 0), (78, .iconst 0, 1, 0, 0, 0, 0), (79, .invokevirtual 117, 3, 115, 3, 11, 0)],
  [(82, .ireturn, 1, 0, 0, 0, 0), (83, .aload_n 0, 1, 0, 0, 0, 0), (84, .aload_n 1, 1, 0, 0, 0, 0), (85, .aload_n 0, 1, 0, 0, 0, 0), (86, .getfield 9, 3, 8, 5, 4, 0), (89, .iconst 1, 1, 0, 0, 0, 0), (90, .iaload, 1, 0, 0, 0, 0), (91, .invokevirtual 121, 3, 135, 3, 12, 0), (94, .ireturn, 1, 0, 0, 0, 0), (95, .aload_n 0, 1, 0, 0, 0, 0)],
  [(96, .aload_n 1, 1, 0, 0, 0, 0), (97, .aload_n 0, 1, 0, 0, 0, 0), (98, .getfield 9, 3, 8, 5, 4, 0), (101, .iconst 2, 1, 0, 0, 0, 0), (102, .iaload, 1, 0, 0, 0, 0), (103, .invokevirtual 125, 3, 136, 3, 12, 0), (106, .ireturn, 1, 0, 0, 0, 0), (107, .aload_n 0, 1, 0, 0, 0, 0), (108, .aload_n 1, 1, 0, 0, 0, 0), (109, .aload_n 0, 1, 0, 0, 0, 0), (110, .getfield 9, 3, 8, 5, 4, 0)],
  [(113, .iconst 3, 1, 0, 0, 0, 0), (114, .iaload, 1, 0, 0, 0, 0), (115, .invokevirtual 128, 3, 133, 3, 12, 0), (118, .ireturn, 1, 0, 0, 0, 0), (119, .aload_n 0, 1, 0, 0, 0, 0), (120, .aload_n 1, 1, 0, 0, 0, 0), (121, .invokevirtual 131, 3, 132, 2, 12, 0), (124, .ireturn, 1, 0, 0, 0, 0), (125, .aload_n 0, 1, 0, 0, 0, 0), (126, .aload_n 1, 1, 0, 0, 0, 0), (127, .invokevirtual 134, 3, 137, 2, 12, 0)],
  [(130, .ireturn, 1, 0, 0, 0, 0), (131, .aload_n 1, 1, 0, 0, 0, 0), (132, .iconst 1, 1, 0, 0, 0, 0), (133, .invokevirtual 111, 3, 113, 2, 11, 0), (136, .ireturn, 1, 0, 0, 0, 0)]]
/-- LostKeys$Town.readLine(LLostKeys$Tape;)Z -/
def rx_m134 : rx_Md := (yX8_readLine, cX8_readLine, 3, (some .boolean), 2, 1, 0, 0, rx_t134)
def rx_t135 : List (List rx_E) := [
  [(0, .aload_n 1, 1, 0, 0, 0, 0), (1, .invokevirtual 114, 3, 108, 1, 11, 0), (4, .iload_n 2, 1, 0, 0, 0, 0), (5, .bipush 6, 2, 0, 0, 0, 0), (7, .if_icmp .ge 22, 3, 0, 0, 0, 0), (10, .aload_n 1, 1, 0, 0, 0, 0), (11, .aload_n 0, 1, 0, 0, 0, 0), (12, .iconst 1, 1, 0, 0, 0, 0), (13, .invokevirtual 117, 3, 115, 3, 11, 0)],
  [(16, .ifCond .eq 13, 3, 0, 0, 0, 0), (19, .aload_n 1, 1, 0, 0, 0, 0), (20, .aload_n 0, 1, 0, 0, 0, 0), (21, .iconst 0, 1, 0, 0, 0, 0), (22, .iconst (-1), 1, 0, 0, 0, 0), (23, .invokevirtual 144, 3, 118, 4, 11, 0), (26, .ifCond .ne 5, 3, 0, 0, 0, 0), (29, .iconst 0, 1, 0, 0, 0, 0), (30, .ireturn, 1, 0, 0, 0, 0), (31, .aload_n 0, 1, 0, 0, 0, 0)],
  [(32, .getfield 19, 3, 8, 7, 4, 0), (35, .iload_n 2, 1, 0, 0, 0, 0), (36, .aload_n 1, 1, 0, 0, 0, 0), (37, .getfield 141, 3, 7, 11, 0, 0), (40, .iastore, 1, 0, 0, 0, 0), (41, .aload_n 1, 1, 0, 0, 0, 0), (42, .aload_n 0, 1, 0, 0, 0, 0), (43, .iconst 0, 1, 0, 0, 0, 0), (44, .aload_n 0, 1, 0, 0, 0, 0), (45, .getfield 19, 3, 8, 7, 4, 0)],
  [(48, .iload_n 2, 1, 0, 0, 0, 0), (49, .iaload, 1, 0, 0, 0, 0), (50, .invokevirtual 144, 3, 118, 4, 11, 0), (53, .ifCond .ne 5, 3, 0, 0, 0, 0), (56, .iconst 0, 1, 0, 0, 0, 0), (57, .ireturn, 1, 0, 0, 0, 0), (58, .aload_n 0, 1, 0, 0, 0, 0), (59, .getfield 22, 3, 8, 8, 4, 0), (62, .iload_n 2, 1, 0, 0, 0, 0), (63, .aload_n 1, 1, 0, 0, 0, 0)],
  [(64, .getfield 141, 3, 7, 11, 0, 0), (67, .iastore, 1, 0, 0, 0, 0), (68, .aload_n 0, 1, 0, 0, 0, 0), (69, .aload_n 1, 1, 0, 0, 0, 0), (70, .aload_n 0, 1, 0, 0, 0, 0), (71, .getfield 25, 3, 8, 9, 4, 0), (74, .aload_n 0, 1, 0, 0, 0, 0), (75, .getfield 28, 3, 8, 10, 4, 0), (78, .iload_n 2, 1, 0, 0, 0, 0), (79, .invokevirtual 148, 3, 131, 5, 12, 0)],
  [(82, .ifCond .eq 13, 3, 0, 0, 0, 0), (85, .aload_n 1, 1, 0, 0, 0, 0), (86, .iconst 0, 1, 0, 0, 0, 0), (87, .bipush 63, 2, 0, 0, 0, 0), (89, .invokevirtual 137, 3, 116, 3, 11, 0), (92, .ifCond .ne 5, 3, 0, 0, 0, 0), (95, .iconst 0, 1, 0, 0, 0, 0)],
  [(96, .ireturn, 1, 0, 0, 0, 0), (97, .aload_n 0, 1, 0, 0, 0, 0), (98, .getfield 31, 3, 8, 11, 4, 0), (101, .iload_n 2, 1, 0, 0, 0, 0), (102, .aload_n 1, 1, 0, 0, 0, 0), (103, .getfield 141, 3, 7, 11, 0, 0), (106, .iastore, 1, 0, 0, 0, 0), (107, .aload_n 1, 1, 0, 0, 0, 0), (108, .getfield 105, 3, 7, 8, 0, 0), (111, .bipush 6, 2, 0, 0, 0, 0)],
  [(113, .if_icmp .ne 19, 3, 0, 0, 0, 0), (116, .aload_n 0, 1, 0, 0, 0, 0), (117, .dup, 1, 0, 0, 0, 0), (118, .getfield 72, 3, 8, 12, 0, 0), (121, .iconst 1, 1, 0, 0, 0, 0), (122, .iload_n 2, 1, 0, 0, 0, 0), (123, .ishl, 1, 0, 0, 0, 0), (124, .ior, 1, 0, 0, 0, 0), (125, .putfield 72, 3, 8, 12, 0, 0)],
  [(128, .aload_n 1, 1, 0, 0, 0, 0), (129, .invokevirtual 114, 3, 108, 1, 11, 0), (132, .iconst 1, 1, 0, 0, 0, 0), (133, .ireturn, 1, 0, 0, 0, 0)]]
/-- LostKeys$Town.readLock(LLostKeys$Tape;I)Z -/
def rx_m135 : rx_Md := (yX8_readLock, cX8_readLock, 3, (some .boolean), 3, 1, 0, 0, rx_t135)
def rx_t136 : List (List rx_E) := [
  [(0, .aload_n 1, 1, 0, 0, 0, 0), (1, .invokevirtual 114, 3, 108, 1, 11, 0), (4, .aload_n 1, 1, 0, 0, 0, 0), (5, .aload_n 0, 1, 0, 0, 0, 0), (6, .iconst 2, 1, 0, 0, 0, 0), (7, .invokevirtual 117, 3, 115, 3, 11, 0), (10, .ifCond .eq 24, 3, 0, 0, 0, 0), (13, .aload_n 0, 1, 0, 0, 0, 0), (14, .aload_n 1, 1, 0, 0, 0, 0), (15, .aload_n 0, 1, 0, 0, 0, 0)],
  [(16, .getfield 34, 3, 8, 13, 4, 0), (19, .aload_n 0, 1, 0, 0, 0, 0), (20, .getfield 37, 3, 8, 14, 4, 0), (23, .iload_n 2, 1, 0, 0, 0, 0), (24, .invokevirtual 148, 3, 131, 5, 12, 0), (27, .ifCond .eq 7, 3, 0, 0, 0, 0), (30, .iconst 1, 1, 0, 0, 0, 0), (31, .goto 4, 3, 0, 0, 0, 0)],
  [(34, .iconst 0, 1, 0, 0, 0, 0), (35, .ireturn, 1, 0, 0, 0, 0)]]
/-- LostKeys$Town.readMan(LLostKeys$Tape;I)Z -/
def rx_m136 : rx_Md := (yX8_readMan, cX8_readMan, 3, (some .boolean), 3, 1, 0, 0, rx_t136)
def rx_t137 : List (List rx_E) := [
  [(0, .aload_n 0, 1, 0, 0, 0, 0), (1, .getfield 69, 3, 8, 4, 2, 0), (4, .ifCond .eq 9, 3, 0, 0, 0, 0), (7, .aload_n 1, 1, 0, 0, 0, 0), (8, .iconst 3, 1, 0, 0, 0, 0), (9, .invokevirtual 111, 3, 113, 2, 11, 0), (12, .ireturn, 1, 0, 0, 0, 0), (13, .aload_n 0, 1, 0, 0, 0, 0), (14, .iconst 1, 1, 0, 0, 0, 0), (15, .putfield 69, 3, 8, 4, 2, 0)],
  [(18, .aload_n 1, 1, 0, 0, 0, 0), (19, .invokevirtual 114, 3, 108, 1, 11, 0), (22, .aload_n 1, 1, 0, 0, 0, 0), (23, .iconst 1, 1, 0, 0, 0, 0), (24, .bipush 9, 2, 0, 0, 0, 0), (26, .invokevirtual 137, 3, 116, 3, 11, 0), (29, .ifCond .ne 5, 3, 0, 0, 0, 0)],
  [(32, .iconst 0, 1, 0, 0, 0, 0), (33, .ireturn, 1, 0, 0, 0, 0), (34, .aload_n 0, 1, 0, 0, 0, 0), (35, .aload_n 1, 1, 0, 0, 0, 0), (36, .getfield 141, 3, 7, 11, 0, 0), (39, .putfield 62, 3, 8, 2, 0, 0), (42, .iconst 1, 1, 0, 0, 0, 0), (43, .ireturn, 1, 0, 0, 0, 0)]]
/-- LostKeys$Town.readSlow(LLostKeys$Tape;)Z -/
def rx_m137 : rx_Md := (yX8_readSlow, cX8_readSlow, 2, (some .boolean), 2, 1, 0, 0, rx_t137)
def rx_t138 : List (List rx_E) := [
  [(0, .iconst 0, 1, 0, 0, 0, 0), (1, .istore_n 1, 1, 0, 0, 0, 0), (2, .iload_n 1, 1, 0, 0, 0, 0), (3, .bipush 36, 2, 0, 0, 0, 0), (5, .if_icmp .ge 85, 3, 0, 0, 0, 0), (8, .sipush 1000, 3, 0, 0, 0, 0), (11, .istore_n 2, 1, 0, 0, 0, 0), (12, .aload_n 0, 1, 0, 0, 0, 0), (13, .getfield 46, 3, 8, 17, 4, 0)],
  [(16, .iload_n 1, 1, 0, 0, 0, 0), (17, .iconst (-1), 1, 0, 0, 0, 0), (18, .iastore, 1, 0, 0, 0, 0), (19, .iconst 0, 1, 0, 0, 0, 0), (20, .istore_n 3, 1, 0, 0, 0, 0), (21, .iload_n 3, 1, 0, 0, 0, 0), (22, .aload_n 0, 1, 0, 0, 0, 0), (23, .getfield 9, 3, 8, 5, 4, 0), (26, .iconst 1, 1, 0, 0, 0, 0), (27, .iaload, 1, 0, 0, 0, 0), (28, .if_icmp .ge 56, 3, 0, 0, 0, 0), (31, .aload_n 0, 1, 0, 0, 0, 0)],
  [(32, .getfield 25, 3, 8, 9, 4, 0), (35, .iload_n 3, 1, 0, 0, 0, 0), (36, .iaload, 1, 0, 0, 0, 0), (37, .iload_n 1, 1, 0, 0, 0, 0), (38, .bipush 6, 2, 0, 0, 0, 0), (40, .irem, 1, 0, 0, 0, 0), (41, .isub, 1, 0, 0, 0, 0), (42, .invokestatic 156, 3, 0, 1, 6, 0), (45, .aload_n 0, 1, 0, 0, 0, 0), (46, .getfield 28, 3, 8, 10, 4, 0)],
  [(49, .iload_n 3, 1, 0, 0, 0, 0), (50, .iaload, 1, 0, 0, 0, 0), (51, .iload_n 1, 1, 0, 0, 0, 0), (52, .bipush 6, 2, 0, 0, 0, 0), (54, .idiv, 1, 0, 0, 0, 0), (55, .isub, 1, 0, 0, 0, 0), (56, .invokestatic 156, 3, 0, 1, 6, 0), (59, .iadd, 1, 0, 0, 0, 0), (60, .istore 4, 2, 0, 0, 0, 0), (62, .iload 4, 2, 0, 0, 0, 0)],
  [(64, .iload_n 2, 1, 0, 0, 0, 0), (65, .if_icmp .ge 13, 3, 0, 0, 0, 0), (68, .iload 4, 2, 0, 0, 0, 0), (70, .istore_n 2, 1, 0, 0, 0, 0), (71, .aload_n 0, 1, 0, 0, 0, 0), (72, .getfield 46, 3, 8, 17, 4, 0), (75, .iload_n 1, 1, 0, 0, 0, 0), (76, .iload_n 3, 1, 0, 0, 0, 0), (77, .iastore, 1, 0, 0, 0, 0), (78, .iinc 3 1, 3, 0, 0, 0, 0)],
  [(81, .goto (-60), 3, 0, 0, 0, 0), (84, .iinc 1 1, 3, 0, 0, 0, 0), (87, .goto (-85), 3, 0, 0, 0, 0), (90, .return_, 1, 0, 0, 0, 0)]]
/-- LostKeys$Town.tellNearest()V -/
def rx_m138 : rx_Md := (yX8_tellNearest, cX8_tellNearest, 5, none, 1, 1, 0, 0, rx_t138)
def rx_t139 : List (List rx_E) := [
  [(0, .iload_n 0, 1, 0, 0, 0, 0), (1, .iload_n 1, 1, 0, 0, 0, 0), (2, .ixor, 1, 0, 0, 0, 0), (3, .istore_n 2, 1, 0, 0, 0, 0), (4, .iload_n 0, 1, 0, 0, 0, 0), (5, .iload_n 2, 1, 0, 0, 0, 0), (6, .iload_n 2, 1, 0, 0, 0, 0), (7, .ineg, 1, 0, 0, 0, 0), (8, .iand, 1, 0, 0, 0, 0), (9, .ixor, 1, 0, 0, 0, 0), (10, .ireturn, 1, 0, 0, 0, 0)]]
/-- LostKeys$Town.turn(II)I -/
def rx_m139 : rx_Md := (yX8_turn, cX8_turn, 3, (some .int), 2, 0, 0, 0, rx_t139)
def rx_t140 : List (List rx_E) := [
  [(0, .aload_n 0, 1, 0, 0, 0, 0), (1, .getfield 43, 3, 8, 16, 4, 0), (4, .iload_n 1, 1, 0, 0, 0, 0), (5, .iaload, 1, 0, 0, 0, 0), (6, .istore 5, 2, 0, 0, 0, 0), (8, .aload_n 0, 1, 0, 0, 0, 0), (9, .iload_n 2, 1, 0, 0, 0, 0), (10, .iload_n 3, 1, 0, 0, 0, 0), (11, .invokevirtual 165, 3, 128, 3, 12, 0), (14, .istore 6, 2, 0, 0, 0, 0)],
  [(16, .iload 6, 2, 0, 0, 0, 0), (18, .iconst (-1), 1, 0, 0, 0, 0), (19, .if_icmp .eq 11, 3, 0, 0, 0, 0), (22, .aload_n 0, 1, 0, 0, 0, 0), (23, .getfield 62, 3, 8, 2, 0, 0), (26, .iconst 1, 1, 0, 0, 0, 0), (27, .if_icmp .ge 6, 3, 0, 0, 0, 0), (30, .iload 5, 2, 0, 0, 0, 0)],
  [(32, .ireturn, 1, 0, 0, 0, 0), (33, .bipush 6, 2, 0, 0, 0, 0), (35, .iload 4, 2, 0, 0, 0, 0), (37, .aload_n 0, 1, 0, 0, 0, 0), (38, .getfield 62, 3, 8, 2, 0, 0), (41, .idiv, 1, 0, 0, 0, 0), (42, .invokestatic 169, 3, 0, 2, 4, 0), (45, .istore 7, 2, 0, 0, 0, 0), (47, .iconst 0, 1, 0, 0, 0, 0)],
  [(48, .istore 8, 2, 0, 0, 0, 0), (50, .iload 8, 2, 0, 0, 0, 0), (52, .iload 7, 2, 0, 0, 0, 0), (54, .if_icmp .ge 23, 3, 0, 0, 0, 0), (57, .iload 5, 2, 0, 0, 0, 0), (59, .aload_n 0, 1, 0, 0, 0, 0), (60, .getfield 31, 3, 8, 11, 4, 0), (63, .iload 6, 2, 0, 0, 0, 0)],
  [(65, .iaload, 1, 0, 0, 0, 0), (66, .invokestatic 172, 3, 139, 2, 0, 0), (69, .istore 5, 2, 0, 0, 0, 0), (71, .iinc 8 1, 3, 0, 0, 0, 0), (74, .goto (-24), 3, 0, 0, 0, 0), (77, .iload 5, 2, 0, 0, 0, 0), (79, .ireturn, 1, 0, 0, 0, 0)]]
/-- LostKeys$Town.wardAfter(IIII)I -/
def rx_m140 : rx_Md := (yX8_wardAfter, cX8_wardAfter, 9, (some .int), 5, 1, 0, 0, rx_t140)
def rx_t141 : List (List rx_E) := [
  [(0, .aload_n 0, 1, 0, 0, 0, 0), (1, .invokespecial 93, 3, 0, 1, 1, 0), (4, .aload_n 0, 1, 0, 0, 0, 0), (5, .sipush 940, 3, 0, 0, 0, 0), (8, .newarray .int, 2, 0, 0, 0, 0), (10, .putfield 7, 3, 10, 1, 4, 0), (13, .aload_n 0, 1, 0, 0, 0, 0), (14, .sipush 367, 3, 0, 0, 0, 0)],
  [(17, .newarray .int, 2, 0, 0, 0, 0), (19, .putfield 98, 3, 10, 14, 4, 0), (22, .aload_n 0, 1, 0, 0, 0, 0), (23, .bipush 64, 2, 0, 0, 0, 0), (25, .newarray .int, 2, 0, 0, 0, 0), (27, .putfield 101, 3, 10, 15, 4, 0), (30, .aload_n 0, 1, 0, 0, 0, 0), (31, .sipush 734, 3, 0, 0, 0, 0)],
  [(34, .newarray .int, 2, 0, 0, 0, 0), (36, .putfield 104, 3, 10, 16, 4, 0), (39, .aload_n 0, 1, 0, 0, 0, 0), (40, .sipush 488, 3, 0, 0, 0, 0), (43, .newarray .int, 2, 0, 0, 0, 0), (45, .putfield 107, 3, 10, 17, 4, 0)],
  [(48, .aload_n 0, 1, 0, 0, 0, 0), (49, .bipush 61, 2, 0, 0, 0, 0), (51, .newarray .int, 2, 0, 0, 0, 0), (53, .putfield 110, 3, 10, 18, 4, 0), (56, .aload_n 0, 1, 0, 0, 0, 0), (57, .bipush 25, 2, 0, 0, 0, 0), (59, .newarray .long, 2, 0, 0, 0, 0), (61, .putfield 113, 3, 10, 19, 4, 0)],
  [(64, .aload_n 0, 1, 0, 0, 0, 0), (65, .bipush 25, 2, 0, 0, 0, 0), (67, .newarray .long, 2, 0, 0, 0, 0), (69, .putfield 117, 3, 10, 20, 4, 0), (72, .aload_n 0, 1, 0, 0, 0, 0), (73, .bipush 50, 2, 0, 0, 0, 0), (75, .newarray .long, 2, 0, 0, 0, 0), (77, .putfield 120, 3, 10, 21, 4, 0)],
  [(80, .aload_n 0, 1, 0, 0, 0, 0), (81, .iconst 2, 1, 0, 0, 0, 0), (82, .newarray .boolean, 2, 0, 0, 0, 0), (84, .putfield 123, 3, 10, 22, 4, 0), (87, .aload_n 0, 1, 0, 0, 0, 0), (88, .iconst 2, 1, 0, 0, 0, 0), (89, .newarray .boolean, 2, 0, 0, 0, 0), (91, .putfield 127, 3, 10, 23, 4, 0), (94, .aload_n 0, 1, 0, 0, 0, 0), (95, .iconst (-1), 1, 0, 0, 0, 0)],
  [(96, .putfield 130, 3, 10, 25, 0, 0), (99, .aload_n 0, 1, 0, 0, 0, 0), (100, .iconst (-1), 1, 0, 0, 0, 0), (101, .putfield 133, 3, 10, 26, 0, 0), (104, .aload_n 0, 1, 0, 0, 0, 0), (105, .bipush 6, 2, 0, 0, 0, 0), (107, .newarray .int, 2, 0, 0, 0, 0), (109, .putfield 136, 3, 10, 27, 4, 0)],
  [(112, .aload_n 0, 1, 0, 0, 0, 0), (113, .bipush 6, 2, 0, 0, 0, 0), (115, .newarray .int, 2, 0, 0, 0, 0), (117, .putfield 139, 3, 10, 28, 4, 0), (120, .aload_n 0, 1, 0, 0, 0, 0), (121, .bipush 6, 2, 0, 0, 0, 0), (123, .newarray .int, 2, 0, 0, 0, 0), (125, .putfield 142, 3, 10, 29, 4, 0)],
  [(128, .aload_n 0, 1, 0, 0, 0, 0), (129, .bipush 6, 2, 0, 0, 0, 0), (131, .newarray .int, 2, 0, 0, 0, 0), (133, .putfield 145, 3, 10, 32, 4, 0), (136, .aload_n 0, 1, 0, 0, 0, 0), (137, .bipush 6, 2, 0, 0, 0, 0), (139, .newarray .int, 2, 0, 0, 0, 0), (141, .putfield 148, 3, 10, 33, 4, 0)],
  [(144, .aload_n 0, 1, 0, 0, 0, 0), (145, .iconst (-1), 1, 0, 0, 0, 0), (146, .putfield 151, 3, 10, 35, 0, 0), (149, .aload_n 0, 1, 0, 0, 0, 0), (150, .iconst (-1), 1, 0, 0, 0, 0), (151, .putfield 154, 3, 10, 36, 0, 0), (154, .aload_n 0, 1, 0, 0, 0, 0), (155, .iconst (-1), 1, 0, 0, 0, 0), (156, .putfield 157, 3, 10, 37, 0, 0), (159, .aload_n 0, 1, 0, 0, 0, 0)],
  [(160, .bipush 64, 2, 0, 0, 0, 0), (162, .newarray .int, 2, 0, 0, 0, 0), (164, .putfield 160, 3, 10, 38, 4, 0), (167, .aload_n 0, 1, 0, 0, 0, 0), (168, .sipush 160, 3, 0, 0, 0, 0), (171, .newarray .int, 2, 0, 0, 0, 0), (173, .putfield 163, 3, 10, 41, 4, 0)],
  [(176, .aload_n 0, 1, 0, 0, 0, 0), (177, .iconst 4, 1, 0, 0, 0, 0), (178, .newarray .int, 2, 0, 0, 0, 0), (180, .putfield 166, 3, 10, 42, 4, 0), (183, .aload_n 0, 1, 0, 0, 0, 0), (184, .sipush 240, 3, 0, 0, 0, 0), (187, .newarray .int, 2, 0, 0, 0, 0), (189, .putfield 169, 3, 10, 45, 4, 0)],
  [(192, .aload_n 0, 1, 0, 0, 0, 0), (193, .invokevirtual 172, 3, 250, 1, 14, 0), (196, .iconst 0, 1, 0, 0, 0, 0), (197, .istore_n 1, 1, 0, 0, 0, 0), (198, .iload_n 1, 1, 0, 0, 0, 0), (199, .bipush 64, 2, 0, 0, 0, 0), (201, .if_icmp .ge 21, 3, 0, 0, 0, 0), (204, .aload_n 0, 1, 0, 0, 0, 0), (205, .getfield 98, 3, 10, 14, 4, 0)],
  [(208, .iload_n 1, 1, 0, 0, 0, 0), (209, .aload_n 0, 1, 0, 0, 0, 0), (210, .getfield 101, 3, 10, 15, 4, 0), (213, .iload_n 1, 1, 0, 0, 0, 0), (214, .iaload, 1, 0, 0, 0, 0), (215, .iastore, 1, 0, 0, 0, 0), (216, .iinc 1 1, 3, 0, 0, 0, 0), (219, .goto (-21), 3, 0, 0, 0, 0), (222, .return_, 1, 0, 0, 0, 0)]]
/-- LostKeysModel.<init>()V -/
def rx_m141 : rx_Md := (yX10_init, cX10_init, 2, none, 1, 2, 20, 3256, rx_t141)
def rx_t142 : List (List rx_E) := [
  [(0, .aload_n 0, 1, 0, 0, 0, 0), (1, .iload_n 1, 1, 0, 0, 0, 0), (2, .iload_n 2, 1, 0, 0, 0, 0), (3, .iload_n 3, 1, 0, 0, 0, 0), (4, .iload 4, 2, 0, 0, 0, 0), (6, .invokevirtual 290, 3, 267, 5, 14, 0), (9, .istore 5, 2, 0, 0, 0, 0), (11, .iload 5, 2, 0, 0, 0, 0), (13, .ifCond .eq 6, 3, 0, 0, 0, 0)],
  [(16, .iload 5, 2, 0, 0, 0, 0), (18, .ireturn, 1, 0, 0, 0, 0), (19, .aload_n 0, 1, 0, 0, 0, 0), (20, .invokevirtual 294, 3, 248, 1, 14, 0), (23, .aload_n 0, 1, 0, 0, 0, 0), (24, .iload_n 1, 1, 0, 0, 0, 0), (25, .iload_n 2, 1, 0, 0, 0, 0), (26, .iload_n 3, 1, 0, 0, 0, 0), (27, .iload 4, 2, 0, 0, 0, 0), (29, .invokevirtual 297, 3, 195, 5, 14, 0)],
  [(32, .iconst 0, 1, 0, 0, 0, 0), (33, .ireturn, 1, 0, 0, 0, 0)]]
/-- LostKeysModel.act(IIII)I -/
def rx_m142 : rx_Md := (yX10_act, cX10_act, 6, (some .int), 5, 1, 0, 0, rx_t142)
def rx_t143 : List (List rx_E) := [
  [(0, .aload_n 0, 1, 0, 0, 0, 0), (1, .iload_n 1, 1, 0, 0, 0, 0), (2, .iload_n 2, 1, 0, 0, 0, 0), (3, .invokevirtual 307, 3, 208, 3, 14, 0), (6, .istore 5, 2, 0, 0, 0, 0), (8, .iconst 0, 1, 0, 0, 0, 0), (9, .istore 6, 2, 0, 0, 0, 0), (11, .iconst 0, 1, 0, 0, 0, 0), (12, .istore 7, 2, 0, 0, 0, 0), (14, .iload 7, 2, 0, 0, 0, 0)],
  [(16, .bipush 8, 2, 0, 0, 0, 0), (18, .if_icmp .ge 102, 3, 0, 0, 0, 0), (21, .iload_n 3, 1, 0, 0, 0, 0), (22, .iload 7, 2, 0, 0, 0, 0), (24, .invokestatic 257, 3, 170, 2, 0, 0), (27, .ifCond .ne 6, 3, 0, 0, 0, 0), (30, .goto 84, 3, 0, 0, 0, 0)],
  [(33, .iconst 0, 1, 0, 0, 0, 0), (34, .istore 8, 2, 0, 0, 0, 0), (36, .iconst 0, 1, 0, 0, 0, 0), (37, .istore 9, 2, 0, 0, 0, 0), (39, .iload 9, 2, 0, 0, 0, 0), (41, .bipush 8, 2, 0, 0, 0, 0), (43, .if_icmp .ge 60, 3, 0, 0, 0, 0), (46, .iload_n 3, 1, 0, 0, 0, 0), (47, .iload 9, 2, 0, 0, 0, 0)],
  [(49, .invokestatic 257, 3, 170, 2, 0, 0), (52, .ifCond .eq 45, 3, 0, 0, 0, 0), (55, .aload_n 0, 1, 0, 0, 0, 0), (56, .aload_n 0, 1, 0, 0, 0, 0), (57, .getfield 98, 3, 10, 14, 4, 0), (60, .bipush 56, 2, 0, 0, 0, 0), (62, .iload 9, 2, 0, 0, 0, 0)],
  [(64, .iadd, 1, 0, 0, 0, 0), (65, .iaload, 1, 0, 0, 0, 0), (66, .iload 5, 2, 0, 0, 0, 0), (68, .iload 4, 2, 0, 0, 0, 0), (70, .invokevirtual 358, 3, 149, 4, 14, 0), (73, .aload_n 0, 1, 0, 0, 0, 0), (74, .aload_n 0, 1, 0, 0, 0, 0), (75, .getfield 98, 3, 10, 14, 4, 0), (78, .bipush 56, 2, 0, 0, 0, 0)],
  [(80, .iload 7, 2, 0, 0, 0, 0), (82, .iadd, 1, 0, 0, 0, 0), (83, .iaload, 1, 0, 0, 0, 0), (84, .iload 5, 2, 0, 0, 0, 0), (86, .iload 4, 2, 0, 0, 0, 0), (88, .invokevirtual 358, 3, 149, 4, 14, 0), (91, .if_icmp .ne 6, 3, 0, 0, 0, 0), (94, .iinc 8 1, 3, 0, 0, 0, 0)],
  [(97, .iinc 9 1, 3, 0, 0, 0, 0), (100, .goto (-61), 3, 0, 0, 0, 0), (103, .iload 8, 2, 0, 0, 0, 0), (105, .iload 6, 2, 0, 0, 0, 0), (107, .if_icmp .le 7, 3, 0, 0, 0, 0), (110, .iload 8, 2, 0, 0, 0, 0)],
  [(112, .istore 6, 2, 0, 0, 0, 0), (114, .iinc 7 1, 3, 0, 0, 0, 0), (117, .goto (-103), 3, 0, 0, 0, 0), (120, .iload 6, 2, 0, 0, 0, 0), (122, .ireturn, 1, 0, 0, 0, 0)]]
/-- LostKeysModel.alikeIn(IIII)I -/
def rx_m143 : rx_Md := (yX10_alikeIn, cX10_alikeIn, 10, (some .int), 5, 1, 0, 0, rx_t143)
def rx_t144 : List (List rx_E) := [
  [(0, .aload_n 0, 1, 0, 0, 0, 0), (1, .aload_n 0, 1, 0, 0, 0, 0), (2, .getfield 30, 3, 10, 7, 0, 0), (5, .iconst 1, 1, 0, 0, 0, 0), (6, .if_icmp .ne 7, 3, 0, 0, 0, 0), (9, .iconst 1, 1, 0, 0, 0, 0), (10, .goto 4, 3, 0, 0, 0, 0), (13, .iload_n 1, 1, 0, 0, 0, 0), (14, .putfield 66, 3, 10, 10, 0, 0)],
  [(17, .aload_n 0, 1, 0, 0, 0, 0), (18, .aload_n 0, 1, 0, 0, 0, 0), (19, .getfield 24, 3, 10, 6, 0, 0), (22, .putfield 69, 3, 10, 11, 0, 0), (25, .iconst 0, 1, 0, 0, 0, 0), (26, .ireturn, 1, 0, 0, 0, 0)]]
/-- LostKeysModel.bad(I)Z -/
def rx_m144 : rx_Md := (yX10_bad, cX10_bad, 2, (some .boolean), 2, 1, 0, 0, rx_t144)
def rx_t145 : List (List rx_E) := [
  [(0, .aload_n 0, 1, 0, 0, 0, 0), (1, .iconst 0, 1, 0, 0, 0, 0), (2, .putfield 1, 3, 10, 0, 0, 0), (5, .aload_n 0, 1, 0, 0, 0, 0), (6, .aload_n 0, 1, 0, 0, 0, 0), (7, .invokevirtual 89, 3, 254, 1, 14, 0), (10, .putfield 18, 3, 10, 3, 0, 0), (13, .aload_n 0, 1, 0, 0, 0, 0), (14, .iload_n 1, 1, 0, 0, 0, 0), (15, .putfield 27, 3, 10, 4, 0, 0)],
  [(18, .aload_n 0, 1, 0, 0, 0, 0), (19, .iconst 0, 1, 0, 0, 0, 0), (20, .putfield 66, 3, 10, 10, 0, 0), (23, .aload_n 0, 1, 0, 0, 0, 0), (24, .iconst 0, 1, 0, 0, 0, 0), (25, .putfield 21, 3, 10, 5, 0, 0), (28, .aload_n 0, 1, 0, 0, 0, 0), (29, .invokevirtual 82, 3, 167, 1, 14, 0)],
  [(32, .return_, 1, 0, 0, 0, 0)]]
/-- LostKeysModel.begin(I)V -/
def rx_m145 : rx_Md := (yX10_begin, cX10_begin, 2, none, 2, 1, 0, 0, rx_t145)
def rx_t146 : List (List rx_E) := [
  [(0, .iconst 0, 1, 0, 0, 0, 0), (1, .istore_n 1, 1, 0, 0, 0, 0), (2, .iload_n 0, 1, 0, 0, 0, 0), (3, .istore_n 2, 1, 0, 0, 0, 0), (4, .iload_n 2, 1, 0, 0, 0, 0), (5, .ifCond .eq 15, 3, 0, 0, 0, 0), (8, .iinc 1 1, 3, 0, 0, 0, 0), (11, .iload_n 2, 1, 0, 0, 0, 0), (12, .iload_n 2, 1, 0, 0, 0, 0), (13, .iconst 1, 1, 0, 0, 0, 0), (14, .isub, 1, 0, 0, 0, 0), (15, .iand, 1, 0, 0, 0, 0)],
  [(16, .istore_n 2, 1, 0, 0, 0, 0), (17, .goto (-13), 3, 0, 0, 0, 0), (20, .iload_n 1, 1, 0, 0, 0, 0), (21, .ireturn, 1, 0, 0, 0, 0)]]
/-- LostKeysModel.bits(I)I -/
def rx_m146 : rx_Md := (yX10_bits, cX10_bits, 3, (some .int), 1, 0, 0, 0, rx_t146)
def rx_t147 : List (List rx_E) := [
  [(0, .aload_n 0, 1, 0, 0, 0, 0), (1, .iconst 0, 1, 0, 0, 0, 0), (2, .putfield 1, 3, 10, 0, 0, 0), (5, .iload_n 1, 1, 0, 0, 0, 0), (6, .iconst 0, 1, 0, 0, 0, 0), (7, .iconst 1, 1, 0, 0, 0, 0), (8, .invokestatic 75, 3, 177, 3, 0, 0), (11, .ifCond .ne 7, 3, 0, 0, 0, 0), (14, .sipush (-1000), 3, 0, 0, 0, 0)],
  [(17, .ireturn, 1, 0, 0, 0, 0), (18, .aload_n 0, 1, 0, 0, 0, 0), (19, .sipush 400, 3, 0, 0, 0, 0), (22, .invokevirtual 227, 3, 145, 2, 14, 0), (25, .aload_n 0, 1, 0, 0, 0, 0), (26, .iconst 0, 1, 0, 0, 0, 0), (27, .putfield 406, 3, 10, 43, 0, 0), (30, .aload_n 0, 1, 0, 0, 0, 0), (31, .getfield 30, 3, 10, 7, 0, 0)],
  [(34, .ifCond .eq 31, 3, 0, 0, 0, 0), (37, .aload_n 0, 1, 0, 0, 0, 0), (38, .invokevirtual 412, 3, 221, 1, 14, 0), (41, .ifCond .ne 11, 3, 0, 0, 0, 0), (44, .bipush (-2), 2, 0, 0, 0, 0), (46, .aload_n 0, 1, 0, 0, 0, 0), (47, .getfield 69, 3, 10, 11, 0, 0)],
  [(50, .isub, 1, 0, 0, 0, 0), (51, .ireturn, 1, 0, 0, 0, 0), (52, .aload_n 0, 1, 0, 0, 0, 0), (53, .dup, 1, 0, 0, 0, 0), (54, .getfield 406, 3, 10, 43, 0, 0), (57, .iconst 1, 1, 0, 0, 0, 0), (58, .iadd, 1, 0, 0, 0, 0), (59, .putfield 406, 3, 10, 43, 0, 0), (62, .goto (-32), 3, 0, 0, 0, 0)],
  [(65, .aload_n 0, 1, 0, 0, 0, 0), (66, .invokevirtual 336, 3, 191, 1, 14, 0), (69, .iconst 0, 1, 0, 0, 0, 0), (70, .istore_n 2, 1, 0, 0, 0, 0), (71, .iconst 0, 1, 0, 0, 0, 0), (72, .istore_n 3, 1, 0, 0, 0, 0), (73, .iload_n 2, 1, 0, 0, 0, 0), (74, .aload_n 0, 1, 0, 0, 0, 0), (75, .getfield 406, 3, 10, 43, 0, 0), (78, .if_icmp .ge 25, 3, 0, 0, 0, 0)],
  [(81, .iload_n 3, 1, 0, 0, 0, 0), (82, .ifCond .ne 21, 3, 0, 0, 0, 0), (85, .aload_n 0, 1, 0, 0, 0, 0), (86, .iconst 4, 1, 0, 0, 0, 0), (87, .iload_n 2, 1, 0, 0, 0, 0), (88, .imul, 1, 0, 0, 0, 0), (89, .invokevirtual 415, 3, 168, 2, 14, 0), (92, .istore_n 3, 1, 0, 0, 0, 0), (93, .iload_n 3, 1, 0, 0, 0, 0), (94, .ifCond .ne (-21), 3, 0, 0, 0, 0)],
  [(97, .iinc 2 1, 3, 0, 0, 0, 0), (100, .goto (-27), 3, 0, 0, 0, 0), (103, .aload_n 0, 1, 0, 0, 0, 0), (104, .getfield 166, 3, 10, 42, 4, 0), (107, .iconst 0, 1, 0, 0, 0, 0), (108, .iload_n 3, 1, 0, 0, 0, 0), (109, .iastore, 1, 0, 0, 0, 0), (110, .aload_n 0, 1, 0, 0, 0, 0), (111, .getfield 166, 3, 10, 42, 4, 0)],
  [(114, .iconst 1, 1, 0, 0, 0, 0), (115, .iload_n 2, 1, 0, 0, 0, 0), (116, .iastore, 1, 0, 0, 0, 0), (117, .aload_n 0, 1, 0, 0, 0, 0), (118, .getfield 166, 3, 10, 42, 4, 0), (121, .iconst 2, 1, 0, 0, 0, 0), (122, .aload_n 0, 1, 0, 0, 0, 0), (123, .getfield 98, 3, 10, 14, 4, 0), (126, .bipush 64, 2, 0, 0, 0, 0)],
  [(128, .iaload, 1, 0, 0, 0, 0), (129, .iastore, 1, 0, 0, 0, 0), (130, .aload_n 0, 1, 0, 0, 0, 0), (131, .getfield 166, 3, 10, 42, 4, 0), (134, .iconst 3, 1, 0, 0, 0, 0), (135, .aload_n 0, 1, 0, 0, 0, 0), (136, .getfield 98, 3, 10, 14, 4, 0), (139, .bipush 65, 2, 0, 0, 0, 0), (141, .iaload, 1, 0, 0, 0, 0), (142, .iastore, 1, 0, 0, 0, 0), (143, .aload_n 0, 1, 0, 0, 0, 0)],
  [(144, .iconst 1, 1, 0, 0, 0, 0), (145, .putfield 418, 3, 10, 44, 2, 0), (148, .aload_n 0, 1, 0, 0, 0, 0), (149, .iload_n 1, 1, 0, 0, 0, 0), (150, .iconst 1, 1, 0, 0, 0, 0), (151, .if_icmp .ne 11, 3, 0, 0, 0, 0), (154, .iload_n 2, 1, 0, 0, 0, 0), (155, .ifCond .le 7, 3, 0, 0, 0, 0), (158, .iconst 1, 1, 0, 0, 0, 0), (159, .goto 4, 3, 0, 0, 0, 0)],
  [(162, .iconst 0, 1, 0, 0, 0, 0), (163, .invokevirtual 421, 3, 252, 2, 14, 0), (166, .iload_n 3, 1, 0, 0, 0, 0), (167, .ifCond .ne 7, 3, 0, 0, 0, 0), (170, .iconst (-1), 1, 0, 0, 0, 0), (171, .goto 4, 3, 0, 0, 0, 0), (174, .iload_n 2, 1, 0, 0, 0, 0), (175, .ireturn, 1, 0, 0, 0, 0)]]
/-- LostKeysModel.book(I)I -/
def rx_m147 : rx_Md := (yX10_book, cX10_book, 4, (some .int), 2, 1, 0, 0, rx_t147)
def rx_t148 : List (List rx_E) := [
  [(0, .aload_n 0, 1, 0, 0, 0, 0), (1, .iconst 0, 1, 0, 0, 0, 0), (2, .putfield 1, 3, 10, 0, 0, 0), (5, .iload_n 1, 1, 0, 0, 0, 0), (6, .iconst 0, 1, 0, 0, 0, 0), (7, .aload_n 0, 1, 0, 0, 0, 0), (8, .getfield 365, 3, 10, 39, 0, 0), (11, .iconst 1, 1, 0, 0, 0, 0), (12, .isub, 1, 0, 0, 0, 0), (13, .invokestatic 75, 3, 177, 3, 0, 0)],
  [(16, .ifCond .eq 12, 3, 0, 0, 0, 0), (19, .aload_n 0, 1, 0, 0, 0, 0), (20, .getfield 160, 3, 10, 38, 4, 0), (23, .iload_n 1, 1, 0, 0, 0, 0), (24, .iaload, 1, 0, 0, 0, 0), (25, .goto 4, 3, 0, 0, 0, 0), (28, .iconst (-1), 1, 0, 0, 0, 0), (29, .ireturn, 1, 0, 0, 0, 0)]]
/-- LostKeysModel.byteAt(I)I -/
def rx_m148 : rx_Md := (yX10_byteAt, cX10_byteAt, 2, (some .int), 2, 1, 0, 0, rx_t148)
def rx_t149 : List (List rx_E) := [
  [(0, .iload_n 1, 1, 0, 0, 0, 0), (1, .istore 4, 2, 0, 0, 0, 0), (3, .iconst 0, 1, 0, 0, 0, 0), (4, .istore 5, 2, 0, 0, 0, 0), (6, .iload 5, 2, 0, 0, 0, 0), (8, .iload_n 3, 1, 0, 0, 0, 0), (9, .if_icmp .ge 43, 3, 0, 0, 0, 0), (12, .iload 4, 2, 0, 0, 0, 0), (14, .aload_n 0, 1, 0, 0, 0, 0), (15, .getfield 98, 3, 10, 14, 4, 0)],
  [(18, .bipush 31, 2, 0, 0, 0, 0), (20, .iload_n 2, 1, 0, 0, 0, 0), (21, .iadd, 1, 0, 0, 0, 0), (22, .iaload, 1, 0, 0, 0, 0), (23, .if_icmp .eq 29, 3, 0, 0, 0, 0), (26, .iload 4, 2, 0, 0, 0, 0), (28, .iload 4, 2, 0, 0, 0, 0), (30, .aload_n 0, 1, 0, 0, 0, 0), (31, .getfield 98, 3, 10, 14, 4, 0)],
  [(34, .bipush 31, 2, 0, 0, 0, 0), (36, .iload_n 2, 1, 0, 0, 0, 0), (37, .iadd, 1, 0, 0, 0, 0), (38, .iaload, 1, 0, 0, 0, 0), (39, .ixor, 1, 0, 0, 0, 0), (40, .invokestatic 310, 3, 200, 1, 0, 0), (43, .ixor, 1, 0, 0, 0, 0), (44, .istore 4, 2, 0, 0, 0, 0), (46, .iinc 5 1, 3, 0, 0, 0, 0)],
  [(49, .goto (-43), 3, 0, 0, 0, 0), (52, .iload 4, 2, 0, 0, 0, 0), (54, .ireturn, 1, 0, 0, 0, 0)]]
/-- LostKeysModel.cameTo(III)I -/
def rx_m149 : rx_Md := (yX10_cameTo, cX10_cameTo, 6, (some .int), 4, 1, 0, 0, rx_t149)
def rx_t150 : List (List rx_E) := [
  [(0, .aload_n 0, 1, 0, 0, 0, 0), (1, .getfield 98, 3, 10, 14, 4, 0), (4, .bipush 109, 2, 0, 0, 0, 0), (6, .iload_n 1, 1, 0, 0, 0, 0), (7, .iadd, 1, 0, 0, 0, 0), (8, .dup2, 1, 0, 0, 0, 0), (9, .iaload, 1, 0, 0, 0, 0), (10, .iconst 1, 1, 0, 0, 0, 0), (11, .iadd, 1, 0, 0, 0, 0), (12, .iastore, 1, 0, 0, 0, 0), (13, .aload_n 0, 1, 0, 0, 0, 0), (14, .getfield 98, 3, 10, 14, 4, 0)],
  [(17, .bipush 109, 2, 0, 0, 0, 0), (19, .iload_n 1, 1, 0, 0, 0, 0), (20, .iadd, 1, 0, 0, 0, 0), (21, .iaload, 1, 0, 0, 0, 0), (22, .aload_n 0, 1, 0, 0, 0, 0), (23, .getfield 98, 3, 10, 14, 4, 0), (26, .bipush 6, 2, 0, 0, 0, 0), (28, .iaload, 1, 0, 0, 0, 0), (29, .irem, 1, 0, 0, 0, 0), (30, .ifCond .ne 12, 3, 0, 0, 0, 0)],
  [(33, .aload_n 0, 1, 0, 0, 0, 0), (34, .getfield 98, 3, 10, 14, 4, 0), (37, .iconst 1, 1, 0, 0, 0, 0), (38, .iaload, 1, 0, 0, 0, 0), (39, .ifCond .ne 4, 3, 0, 0, 0, 0), (42, .return_, 1, 0, 0, 0, 0), (43, .aload_n 0, 1, 0, 0, 0, 0), (44, .aload_n 0, 1, 0, 0, 0, 0), (45, .getfield 98, 3, 10, 14, 4, 0)],
  [(48, .bipush 85, 2, 0, 0, 0, 0), (50, .iload_n 1, 1, 0, 0, 0, 0), (51, .iadd, 1, 0, 0, 0, 0), (52, .iaload, 1, 0, 0, 0, 0), (53, .aload_n 0, 1, 0, 0, 0, 0), (54, .getfield 98, 3, 10, 14, 4, 0), (57, .bipush 93, 2, 0, 0, 0, 0), (59, .iload_n 1, 1, 0, 0, 0, 0), (60, .iadd, 1, 0, 0, 0, 0), (61, .iaload, 1, 0, 0, 0, 0), (62, .invokevirtual 307, 3, 208, 3, 14, 0)],
  [(65, .istore_n 2, 1, 0, 0, 0, 0), (66, .aload_n 0, 1, 0, 0, 0, 0), (67, .getfield 98, 3, 10, 14, 4, 0), (70, .bipush 101, 2, 0, 0, 0, 0), (72, .iload_n 1, 1, 0, 0, 0, 0), (73, .iadd, 1, 0, 0, 0, 0), (74, .iaload, 1, 0, 0, 0, 0), (75, .aload_n 0, 1, 0, 0, 0, 0), (76, .getfield 98, 3, 10, 14, 4, 0), (79, .bipush 31, 2, 0, 0, 0, 0)],
  [(81, .iload_n 2, 1, 0, 0, 0, 0), (82, .iadd, 1, 0, 0, 0, 0), (83, .iaload, 1, 0, 0, 0, 0), (84, .ixor, 1, 0, 0, 0, 0), (85, .istore_n 3, 1, 0, 0, 0, 0), (86, .iload_n 3, 1, 0, 0, 0, 0), (87, .ifCond .eq 32, 3, 0, 0, 0, 0), (90, .aload_n 0, 1, 0, 0, 0, 0), (91, .getfield 98, 3, 10, 14, 4, 0), (94, .bipush 101, 2, 0, 0, 0, 0)],
  [(96, .iload_n 1, 1, 0, 0, 0, 0), (97, .iadd, 1, 0, 0, 0, 0), (98, .dup2, 1, 0, 0, 0, 0), (99, .iaload, 1, 0, 0, 0, 0), (100, .iload_n 3, 1, 0, 0, 0, 0), (101, .invokestatic 310, 3, 200, 1, 0, 0), (104, .ixor, 1, 0, 0, 0, 0), (105, .iastore, 1, 0, 0, 0, 0), (106, .aload_n 0, 1, 0, 0, 0, 0), (107, .getfield 98, 3, 10, 14, 4, 0), (110, .bipush 117, 2, 0, 0, 0, 0)],
  [(112, .iload_n 1, 1, 0, 0, 0, 0), (113, .iadd, 1, 0, 0, 0, 0), (114, .dup2, 1, 0, 0, 0, 0), (115, .iaload, 1, 0, 0, 0, 0), (116, .iconst 1, 1, 0, 0, 0, 0), (117, .iadd, 1, 0, 0, 0, 0), (118, .iastore, 1, 0, 0, 0, 0), (119, .aload_n 0, 1, 0, 0, 0, 0), (120, .iload_n 1, 1, 0, 0, 0, 0), (121, .iload_n 2, 1, 0, 0, 0, 0), (122, .invokevirtual 250, 3, 212, 3, 14, 0), (125, .ifCond .gt 17, 3, 0, 0, 0, 0)],
  [(128, .aload_n 0, 1, 0, 0, 0, 0), (129, .getfield 98, 3, 10, 14, 4, 0), (132, .bipush 65, 2, 0, 0, 0, 0), (134, .iaload, 1, 0, 0, 0, 0), (135, .iload_n 2, 1, 0, 0, 0, 0), (136, .invokestatic 257, 3, 170, 2, 0, 0), (139, .ifCond .eq 4, 3, 0, 0, 0, 0), (142, .return_, 1, 0, 0, 0, 0), (143, .aload_n 0, 1, 0, 0, 0, 0)],
  [(144, .getfield 98, 3, 10, 14, 4, 0), (147, .bipush 65, 2, 0, 0, 0, 0), (149, .dup2, 1, 0, 0, 0, 0), (150, .iaload, 1, 0, 0, 0, 0), (151, .iconst 1, 1, 0, 0, 0, 0), (152, .iload_n 2, 1, 0, 0, 0, 0), (153, .ishl, 1, 0, 0, 0, 0), (154, .ior, 1, 0, 0, 0, 0), (155, .iastore, 1, 0, 0, 0, 0), (156, .aload_n 0, 1, 0, 0, 0, 0), (157, .getfield 98, 3, 10, 14, 4, 0)],
  [(160, .bipush 66, 2, 0, 0, 0, 0), (162, .dup2, 1, 0, 0, 0, 0), (163, .iaload, 1, 0, 0, 0, 0), (164, .iconst 1, 1, 0, 0, 0, 0), (165, .iadd, 1, 0, 0, 0, 0), (166, .iastore, 1, 0, 0, 0, 0), (167, .return_, 1, 0, 0, 0, 0)]]
/-- LostKeysModel.changes(I)V -/
def rx_m150 : rx_Md := (yX10_changes, cX10_changes, 4, none, 2, 1, 0, 0, rx_t150)
def rx_t151 : List (List rx_E) := [
  [(0, .bipush 24, 2, 0, 0, 0, 0), (2, .istore_n 2, 1, 0, 0, 0, 0), (3, .iload_n 2, 1, 0, 0, 0, 0), (4, .ifCond .lt 35, 3, 0, 0, 0, 0), (7, .aload_n 0, 1, 0, 0, 0, 0), (8, .getfield 7, 3, 10, 1, 4, 0), (11, .aload_n 0, 1, 0, 0, 0, 0), (12, .getfield 11, 3, 10, 2, 0, 0), (15, .iload_n 1, 1, 0, 0, 0, 0)],
  [(16, .iload_n 2, 1, 0, 0, 0, 0), (17, .iushr, 1, 0, 0, 0, 0), (18, .sipush 255, 3, 0, 0, 0, 0), (21, .iand, 1, 0, 0, 0, 0), (22, .iastore, 1, 0, 0, 0, 0), (23, .aload_n 0, 1, 0, 0, 0, 0), (24, .dup, 1, 0, 0, 0, 0), (25, .getfield 11, 3, 10, 2, 0, 0), (28, .iconst 1, 1, 0, 0, 0, 0), (29, .iadd, 1, 0, 0, 0, 0), (30, .putfield 11, 3, 10, 2, 0, 0)],
  [(33, .iinc 2 (-8), 3, 0, 0, 0, 0), (36, .goto (-33), 3, 0, 0, 0, 0), (39, .return_, 1, 0, 0, 0, 0)]]
/-- LostKeysModel.come(I)V -/
def rx_m151 : rx_Md := (yX10_come, cX10_come, 3, none, 2, 1, 0, 0, rx_t151)
def rx_t152 : List (List rx_E) := [
  [(0, .aload_n 0, 1, 0, 0, 0, 0), (1, .iconst 0, 1, 0, 0, 0, 0), (2, .putfield 1, 3, 10, 0, 0, 0), (5, .iload_n 1, 1, 0, 0, 0, 0), (6, .tableswitch 101 0 7 #[46, 53, 60, 67, 74, 81, 88, 96], 46, 0, 0, 0, 0)],
  [],
  [],
  [(52, .aload_n 0, 1, 0, 0, 0, 0), (53, .getfield 98, 3, 10, 14, 4, 0), (56, .iconst 0, 1, 0, 0, 0, 0), (57, .iaload, 1, 0, 0, 0, 0), (58, .ireturn, 1, 0, 0, 0, 0), (59, .aload_n 0, 1, 0, 0, 0, 0), (60, .getfield 98, 3, 10, 14, 4, 0), (63, .iconst 1, 1, 0, 0, 0, 0)],
  [(64, .iaload, 1, 0, 0, 0, 0), (65, .ireturn, 1, 0, 0, 0, 0), (66, .aload_n 0, 1, 0, 0, 0, 0), (67, .getfield 98, 3, 10, 14, 4, 0), (70, .iconst 2, 1, 0, 0, 0, 0), (71, .iaload, 1, 0, 0, 0, 0), (72, .ireturn, 1, 0, 0, 0, 0), (73, .aload_n 0, 1, 0, 0, 0, 0), (74, .getfield 98, 3, 10, 14, 4, 0), (77, .iconst 3, 1, 0, 0, 0, 0), (78, .iaload, 1, 0, 0, 0, 0), (79, .ireturn, 1, 0, 0, 0, 0)],
  [(80, .aload_n 0, 1, 0, 0, 0, 0), (81, .getfield 98, 3, 10, 14, 4, 0), (84, .iconst 4, 1, 0, 0, 0, 0), (85, .iaload, 1, 0, 0, 0, 0), (86, .ireturn, 1, 0, 0, 0, 0), (87, .aload_n 0, 1, 0, 0, 0, 0), (88, .getfield 98, 3, 10, 14, 4, 0), (91, .iconst 5, 1, 0, 0, 0, 0), (92, .iaload, 1, 0, 0, 0, 0), (93, .ireturn, 1, 0, 0, 0, 0), (94, .aload_n 0, 1, 0, 0, 0, 0), (95, .getfield 98, 3, 10, 14, 4, 0)],
  [(98, .bipush 6, 2, 0, 0, 0, 0), (100, .iaload, 1, 0, 0, 0, 0), (101, .ireturn, 1, 0, 0, 0, 0), (102, .aload_n 0, 1, 0, 0, 0, 0), (103, .getfield 11, 3, 10, 2, 0, 0), (106, .ireturn, 1, 0, 0, 0, 0), (107, .iconst (-1), 1, 0, 0, 0, 0), (108, .ireturn, 1, 0, 0, 0, 0)]]
/-- LostKeysModel.count(I)I -/
def rx_m152 : rx_Md := (yX10_count, cX10_count, 2, (some .int), 2, 1, 0, 0, rx_t152)
def rx_t153 : List (List rx_E) := [
  [(0, .aload_n 0, 1, 0, 0, 0, 0), (1, .iconst 0, 1, 0, 0, 0, 0), (2, .putfield 1, 3, 10, 0, 0, 0), (5, .iload_n 1, 1, 0, 0, 0, 0), (6, .iconst 1, 1, 0, 0, 0, 0), (7, .bipush 60, 2, 0, 0, 0, 0), (9, .invokestatic 75, 3, 177, 3, 0, 0), (12, .ifCond .ne 5, 3, 0, 0, 0, 0), (15, .iconst (-1), 1, 0, 0, 0, 0)],
  [(16, .ireturn, 1, 0, 0, 0, 0), (17, .aload_n 0, 1, 0, 0, 0, 0), (18, .getfield 98, 3, 10, 14, 4, 0), (21, .bipush 64, 2, 0, 0, 0, 0), (23, .iaload, 1, 0, 0, 0, 0), (24, .sipush 400, 3, 0, 0, 0, 0), (27, .if_icmp .ne 5, 3, 0, 0, 0, 0), (30, .iconst 0, 1, 0, 0, 0, 0), (31, .ireturn, 1, 0, 0, 0, 0)],
  [(32, .aload_n 0, 1, 0, 0, 0, 0), (33, .invokevirtual 294, 3, 248, 1, 14, 0), (36, .aload_n 0, 1, 0, 0, 0, 0), (37, .iload_n 1, 1, 0, 0, 0, 0), (38, .invokevirtual 322, 3, 217, 2, 14, 0), (41, .ireturn, 1, 0, 0, 0, 0)]]
/-- LostKeysModel.days(I)I -/
def rx_m153 : rx_Md := (yX10_days, cX10_days, 2, (some .int), 2, 1, 0, 0, rx_t153)
def rx_t154 : List (List rx_E) := [
  [(0, .aload_n 0, 1, 0, 0, 0, 0), (1, .aload_n 0, 1, 0, 0, 0, 0), (2, .getfield 378, 3, 10, 40, 0, 0), (5, .ldc_w 381, 3, 0, 0, 1, 1103515245), (8, .imul, 1, 0, 0, 0, 0), (9, .sipush 12345, 3, 0, 0, 0, 0), (12, .iadd, 1, 0, 0, 0, 0), (13, .putfield 378, 3, 10, 40, 0, 0)],
  [(16, .aload_n 0, 1, 0, 0, 0, 0), (17, .getfield 378, 3, 10, 40, 0, 0), (20, .bipush 8, 2, 0, 0, 0, 0), (22, .iushr, 1, 0, 0, 0, 0), (23, .iload_n 1, 1, 0, 0, 0, 0), (24, .irem, 1, 0, 0, 0, 0), (25, .ireturn, 1, 0, 0, 0, 0)]]
/-- LostKeysModel.draw(I)I -/
def rx_m154 : rx_Md := (yX10_draw, cX10_draw, 2, (some .int), 2, 1, 0, 0, rx_t154)
def rx_t155 : List (List rx_E) := [
  [(0, .aload_n 0, 1, 0, 0, 0, 0), (1, .iload_n 2, 1, 0, 0, 0, 0), (2, .putfield 378, 3, 10, 40, 0, 0), (5, .iload_n 1, 1, 0, 0, 0, 0), (6, .sipush 400, 3, 0, 0, 0, 0), (9, .aload_n 0, 1, 0, 0, 0, 0), (10, .getfield 98, 3, 10, 14, 4, 0), (13, .bipush 64, 2, 0, 0, 0, 0), (15, .iaload, 1, 0, 0, 0, 0)],
  [(16, .isub, 1, 0, 0, 0, 0), (17, .invokestatic 316, 3, 193, 2, 0, 0), (20, .istore_n 3, 1, 0, 0, 0, 0), (21, .iconst 0, 1, 0, 0, 0, 0), (22, .istore 4, 2, 0, 0, 0, 0), (24, .iload 4, 2, 0, 0, 0, 0), (26, .iload_n 3, 1, 0, 0, 0, 0), (27, .if_icmp .ge 39, 3, 0, 0, 0, 0), (30, .iconst 0, 1, 0, 0, 0, 0), (31, .istore 5, 2, 0, 0, 0, 0)],
  [(33, .iload 5, 2, 0, 0, 0, 0), (35, .aload_n 0, 1, 0, 0, 0, 0), (36, .getfield 98, 3, 10, 14, 4, 0), (39, .iconst 2, 1, 0, 0, 0, 0), (40, .iaload, 1, 0, 0, 0, 0), (41, .if_icmp .ge 15, 3, 0, 0, 0, 0), (44, .aload_n 0, 1, 0, 0, 0, 0), (45, .iload 5, 2, 0, 0, 0, 0), (47, .invokevirtual 391, 3, 157, 2, 14, 0)],
  [(50, .iinc 5 1, 3, 0, 0, 0, 0), (53, .goto (-20), 3, 0, 0, 0, 0), (56, .aload_n 0, 1, 0, 0, 0, 0), (57, .invokevirtual 319, 3, 213, 1, 14, 0), (60, .iinc 4 1, 3, 0, 0, 0, 0), (63, .goto (-39), 3, 0, 0, 0, 0)],
  [(66, .iload_n 3, 1, 0, 0, 0, 0), (67, .ireturn, 1, 0, 0, 0, 0)]]
/-- LostKeysModel.drawDays(II)I -/
def rx_m155 : rx_Md := (yX10_drawDays, cX10_drawDays, 6, (some .int), 3, 1, 0, 0, rx_t155)
def rx_t156 : List (List rx_E) := [
  [(0, .aload_n 0, 1, 0, 0, 0, 0), (1, .iconst 0, 1, 0, 0, 0, 0), (2, .putfield 1, 3, 10, 0, 0, 0), (5, .iload_n 1, 1, 0, 0, 0, 0), (6, .iconst 1, 1, 0, 0, 0, 0), (7, .bipush 60, 2, 0, 0, 0, 0), (9, .invokestatic 75, 3, 177, 3, 0, 0), (12, .ifCond .eq 12, 3, 0, 0, 0, 0), (15, .aload_n 0, 1, 0, 0, 0, 0)],
  [(16, .getfield 98, 3, 10, 14, 4, 0), (19, .iconst 2, 1, 0, 0, 0, 0), (20, .iaload, 1, 0, 0, 0, 0), (21, .ifCond .ne 5, 3, 0, 0, 0, 0), (24, .iconst (-1), 1, 0, 0, 0, 0), (25, .ireturn, 1, 0, 0, 0, 0), (26, .aload_n 0, 1, 0, 0, 0, 0), (27, .getfield 98, 3, 10, 14, 4, 0), (30, .bipush 64, 2, 0, 0, 0, 0)],
  [(32, .iaload, 1, 0, 0, 0, 0), (33, .sipush 400, 3, 0, 0, 0, 0), (36, .if_icmp .ne 5, 3, 0, 0, 0, 0), (39, .iconst 0, 1, 0, 0, 0, 0), (40, .ireturn, 1, 0, 0, 0, 0), (41, .aload_n 0, 1, 0, 0, 0, 0), (42, .invokevirtual 294, 3, 248, 1, 14, 0), (45, .aload_n 0, 1, 0, 0, 0, 0), (46, .iload_n 1, 1, 0, 0, 0, 0), (47, .iload_n 2, 1, 0, 0, 0, 0)],
  [(48, .invokevirtual 394, 3, 155, 3, 14, 0), (51, .ireturn, 1, 0, 0, 0, 0)]]
/-- LostKeysModel.drawn(II)I -/
def rx_m156 : rx_Md := (yX10_drawn, cX10_drawn, 3, (some .int), 3, 1, 0, 0, rx_t156)
def rx_t157 : List (List rx_E) := [
  [(0, .aload_n 0, 1, 0, 0, 0, 0), (1, .iconst 4, 1, 0, 0, 0, 0), (2, .invokevirtual 382, 3, 154, 2, 14, 0), (5, .istore_n 2, 1, 0, 0, 0, 0), (6, .iload_n 2, 1, 0, 0, 0, 0), (7, .ifCond .ne 92, 3, 0, 0, 0, 0), (10, .aload_n 0, 1, 0, 0, 0, 0), (11, .iconst 4, 1, 0, 0, 0, 0), (12, .invokevirtual 382, 3, 154, 2, 14, 0), (15, .istore_n 3, 1, 0, 0, 0, 0)],
  [(16, .aload_n 0, 1, 0, 0, 0, 0), (17, .getfield 98, 3, 10, 14, 4, 0), (20, .bipush 67, 2, 0, 0, 0, 0), (22, .iload_n 1, 1, 0, 0, 0, 0), (23, .iadd, 1, 0, 0, 0, 0), (24, .iaload, 1, 0, 0, 0, 0), (25, .iload_n 3, 1, 0, 0, 0, 0), (26, .ifCond .ne 7, 3, 0, 0, 0, 0), (29, .iconst 1, 1, 0, 0, 0, 0), (30, .goto 13, 3, 0, 0, 0, 0)],
  [(33, .iload_n 3, 1, 0, 0, 0, 0), (34, .iconst 1, 1, 0, 0, 0, 0), (35, .if_icmp .ne 7, 3, 0, 0, 0, 0), (38, .iconst (-1), 1, 0, 0, 0, 0), (39, .goto 4, 3, 0, 0, 0, 0), (42, .iconst 0, 1, 0, 0, 0, 0), (43, .iadd, 1, 0, 0, 0, 0), (44, .istore 4, 2, 0, 0, 0, 0), (46, .aload_n 0, 1, 0, 0, 0, 0), (47, .getfield 98, 3, 10, 14, 4, 0)],
  [(50, .bipush 72, 2, 0, 0, 0, 0), (52, .iload_n 1, 1, 0, 0, 0, 0), (53, .iadd, 1, 0, 0, 0, 0), (54, .iaload, 1, 0, 0, 0, 0), (55, .iload_n 3, 1, 0, 0, 0, 0), (56, .iconst 2, 1, 0, 0, 0, 0), (57, .if_icmp .ne 7, 3, 0, 0, 0, 0), (60, .iconst 1, 1, 0, 0, 0, 0), (61, .goto 13, 3, 0, 0, 0, 0)],
  [(64, .iload_n 3, 1, 0, 0, 0, 0), (65, .iconst 3, 1, 0, 0, 0, 0), (66, .if_icmp .ne 7, 3, 0, 0, 0, 0), (69, .iconst (-1), 1, 0, 0, 0, 0), (70, .goto 4, 3, 0, 0, 0, 0), (73, .iconst 0, 1, 0, 0, 0, 0), (74, .iadd, 1, 0, 0, 0, 0), (75, .istore 5, 2, 0, 0, 0, 0), (77, .aload_n 0, 1, 0, 0, 0, 0), (78, .iload 4, 2, 0, 0, 0, 0)],
  [(80, .iload 5, 2, 0, 0, 0, 0), (82, .invokevirtual 304, 3, 173, 3, 14, 0), (85, .ifCond .eq 13, 3, 0, 0, 0, 0), (88, .aload_n 0, 1, 0, 0, 0, 0), (89, .iconst 3, 1, 0, 0, 0, 0), (90, .iload_n 1, 1, 0, 0, 0, 0), (91, .iload 4, 2, 0, 0, 0, 0), (93, .iload 5, 2, 0, 0, 0, 0), (95, .invokevirtual 297, 3, 195, 5, 14, 0)],
  [(98, .return_, 1, 0, 0, 0, 0), (99, .aload_n 0, 1, 0, 0, 0, 0), (100, .iload_n 2, 1, 0, 0, 0, 0), (101, .iconst 2, 1, 0, 0, 0, 0), (102, .if_icmp .ne 11, 3, 0, 0, 0, 0), (105, .aload_n 0, 1, 0, 0, 0, 0), (106, .iload_n 1, 1, 0, 0, 0, 0), (107, .invokevirtual 281, 3, 202, 2, 14, 0), (110, .goto 8, 3, 0, 0, 0, 0)],
  [(113, .aload_n 0, 1, 0, 0, 0, 0), (114, .iload_n 1, 1, 0, 0, 0, 0), (115, .invokevirtual 278, 3, 169, 2, 14, 0), (118, .invokevirtual 385, 3, 163, 2, 14, 0), (121, .istore_n 3, 1, 0, 0, 0, 0), (122, .iload_n 3, 1, 0, 0, 0, 0), (123, .iconst (-1), 1, 0, 0, 0, 0), (124, .if_icmp .ne 4, 3, 0, 0, 0, 0), (127, .return_, 1, 0, 0, 0, 0)],
  [(128, .iload_n 2, 1, 0, 0, 0, 0), (129, .iconst 3, 1, 0, 0, 0, 0), (130, .if_icmp .ne 15, 3, 0, 0, 0, 0), (133, .aload_n 0, 1, 0, 0, 0, 0), (134, .aload_n 0, 1, 0, 0, 0, 0), (135, .iload_n 1, 1, 0, 0, 0, 0), (136, .invokevirtual 388, 3, 197, 2, 14, 0), (139, .invokevirtual 385, 3, 163, 2, 14, 0), (142, .goto 4, 3, 0, 0, 0, 0)],
  [(145, .iconst 0, 1, 0, 0, 0, 0), (146, .istore 4, 2, 0, 0, 0, 0), (148, .iload 4, 2, 0, 0, 0, 0), (150, .iconst (-1), 1, 0, 0, 0, 0), (151, .if_icmp .ne 4, 3, 0, 0, 0, 0), (154, .return_, 1, 0, 0, 0, 0), (155, .iload_n 2, 1, 0, 0, 0, 0), (156, .iconst 1, 1, 0, 0, 0, 0), (157, .if_icmp .ne 7, 3, 0, 0, 0, 0)],
  [(160, .iconst 0, 1, 0, 0, 0, 0), (161, .goto 13, 3, 0, 0, 0, 0), (164, .iload_n 2, 1, 0, 0, 0, 0), (165, .iconst 2, 1, 0, 0, 0, 0), (166, .if_icmp .ne 7, 3, 0, 0, 0, 0), (169, .iconst 1, 1, 0, 0, 0, 0), (170, .goto 4, 3, 0, 0, 0, 0), (173, .iconst 2, 1, 0, 0, 0, 0), (174, .istore 5, 2, 0, 0, 0, 0)],
  [(176, .aload_n 0, 1, 0, 0, 0, 0), (177, .iload 5, 2, 0, 0, 0, 0), (179, .iload_n 1, 1, 0, 0, 0, 0), (180, .iload_n 3, 1, 0, 0, 0, 0), (181, .iload 4, 2, 0, 0, 0, 0), (183, .invokevirtual 290, 3, 267, 5, 14, 0), (186, .ifCond .ne 13, 3, 0, 0, 0, 0), (189, .aload_n 0, 1, 0, 0, 0, 0), (190, .iload 5, 2, 0, 0, 0, 0)],
  [(192, .iload_n 1, 1, 0, 0, 0, 0), (193, .iload_n 3, 1, 0, 0, 0, 0), (194, .iload 4, 2, 0, 0, 0, 0), (196, .invokevirtual 297, 3, 195, 5, 14, 0), (199, .return_, 1, 0, 0, 0, 0)]]
/-- LostKeysModel.drawsFor(I)V -/
def rx_m157 : rx_Md := (yX10_drawsFor, cX10_drawsFor, 6, none, 2, 1, 0, 0, rx_t157)
def rx_t158 : List (List rx_E) := [
  [(0, .aload_n 0, 1, 0, 0, 0, 0), (1, .iconst 0, 1, 0, 0, 0, 0), (2, .putfield 1, 3, 10, 0, 0, 0), (5, .aload_n 0, 1, 0, 0, 0, 0), (6, .iload_n 1, 1, 0, 0, 0, 0), (7, .invokevirtual 275, 3, 181, 2, 14, 0), (10, .ifCond .eq 22, 3, 0, 0, 0, 0), (13, .aload_n 0, 1, 0, 0, 0, 0), (14, .iload_n 2, 1, 0, 0, 0, 0), (15, .invokevirtual 260, 3, 178, 2, 14, 0)],
  [(18, .ifCond .eq 14, 3, 0, 0, 0, 0), (21, .aload_n 0, 1, 0, 0, 0, 0), (22, .iconst 0, 1, 0, 0, 0, 0), (23, .iload_n 1, 1, 0, 0, 0, 0), (24, .iload_n 2, 1, 0, 0, 0, 0), (25, .iconst 0, 1, 0, 0, 0, 0), (26, .invokevirtual 301, 3, 142, 5, 14, 0), (29, .goto 4, 3, 0, 0, 0, 0)],
  [(32, .iconst (-1), 1, 0, 0, 0, 0), (33, .ireturn, 1, 0, 0, 0, 0)]]
/-- LostKeysModel.drop(II)I -/
def rx_m158 : rx_Md := (yX10_drop, cX10_drop, 3, (some .int), 3, 1, 0, 0, rx_t158)
def rx_t159 : List (List rx_E) := [
  [(0, .aload_n 0, 1, 0, 0, 0, 0), (1, .iconst 0, 1, 0, 0, 0, 0), (2, .putfield 1, 3, 10, 0, 0, 0), (5, .iload_n 1, 1, 0, 0, 0, 0), (6, .ifCond .lt 11, 3, 0, 0, 0, 0), (9, .iload_n 1, 1, 0, 0, 0, 0), (10, .aload_n 0, 1, 0, 0, 0, 0), (11, .getfield 11, 3, 10, 2, 0, 0), (14, .if_icmp .le 5, 3, 0, 0, 0, 0)],
  [(17, .iconst 0, 1, 0, 0, 0, 0), (18, .ireturn, 1, 0, 0, 0, 0), (19, .aload_n 0, 1, 0, 0, 0, 0), (20, .iload_n 1, 1, 0, 0, 0, 0), (21, .putfield 11, 3, 10, 2, 0, 0), (24, .iconst 1, 1, 0, 0, 0, 0), (25, .ireturn, 1, 0, 0, 0, 0)]]
/-- LostKeysModel.end(I)Z -/
def rx_m159 : rx_Md := (yX10_end, cX10_end, 2, (some .boolean), 2, 1, 0, 0, rx_t159)
def rx_t160 : List (List rx_E) := [
  [(0, .aload_n 0, 1, 0, 0, 0, 0), (1, .iconst 0, 1, 0, 0, 0, 0), (2, .putfield 1, 3, 10, 0, 0, 0), (5, .aload_n 0, 1, 0, 0, 0, 0), (6, .getfield 66, 3, 10, 10, 0, 0), (9, .ireturn, 1, 0, 0, 0, 0)]]
/-- LostKeysModel.fault()I -/
def rx_m160 : rx_Md := (yX10_fault, cX10_fault, 1, (some .int), 1, 1, 0, 0, rx_t160)
def rx_t161 : List (List rx_E) := [
  [(0, .aload_n 0, 1, 0, 0, 0, 0), (1, .iconst 0, 1, 0, 0, 0, 0), (2, .putfield 1, 3, 10, 0, 0, 0), (5, .aload_n 0, 1, 0, 0, 0, 0), (6, .getfield 11, 3, 10, 2, 0, 0), (9, .bipush 20, 2, 0, 0, 0, 0), (11, .iadd, 1, 0, 0, 0, 0), (12, .sipush 940, 3, 0, 0, 0, 0), (15, .if_icmp .le 5, 3, 0, 0, 0, 0)],
  [(18, .iconst (-1), 1, 0, 0, 0, 0), (19, .ireturn, 1, 0, 0, 0, 0), (20, .aload_n 0, 1, 0, 0, 0, 0), (21, .iload_n 1, 1, 0, 0, 0, 0), (22, .invokevirtual 14, 3, 151, 2, 14, 0), (25, .aload_n 0, 1, 0, 0, 0, 0), (26, .iload_n 2, 1, 0, 0, 0, 0), (27, .invokevirtual 14, 3, 151, 2, 14, 0), (30, .aload_n 0, 1, 0, 0, 0, 0), (31, .iload_n 3, 1, 0, 0, 0, 0)],
  [(32, .invokevirtual 14, 3, 151, 2, 14, 0), (35, .aload_n 0, 1, 0, 0, 0, 0), (36, .iload 4, 2, 0, 0, 0, 0), (38, .invokevirtual 14, 3, 151, 2, 14, 0), (41, .aload_n 0, 1, 0, 0, 0, 0), (42, .iload 5, 2, 0, 0, 0, 0), (44, .invokevirtual 14, 3, 151, 2, 14, 0), (47, .aload_n 0, 1, 0, 0, 0, 0)],
  [(48, .getfield 11, 3, 10, 2, 0, 0), (51, .ireturn, 1, 0, 0, 0, 0)]]
/-- LostKeysModel.feed(IIIII)I -/
def rx_m161 : rx_Md := (yX10_feed, cX10_feed, 6, (some .int), 6, 1, 0, 0, rx_t161)
def rx_t162 : List (List rx_E) := [
  [(0, .iconst 0, 1, 0, 0, 0, 0), (1, .istore 5, 2, 0, 0, 0, 0), (3, .iload 5, 2, 0, 0, 0, 0), (5, .iload_n 2, 1, 0, 0, 0, 0), (6, .if_icmp .ge 23, 3, 0, 0, 0, 0), (9, .aload_n 0, 1, 0, 0, 0, 0), (10, .iload_n 1, 1, 0, 0, 0, 0), (11, .iload 5, 2, 0, 0, 0, 0), (13, .iadd, 1, 0, 0, 0, 0), (14, .laload, 1, 0, 0, 0, 0), (15, .lload_n 3, 1, 0, 0, 0, 0)],
  [(16, .lcmp, 1, 0, 0, 0, 0), (17, .ifCond .ne 6, 3, 0, 0, 0, 0), (20, .iload 5, 2, 0, 0, 0, 0), (22, .ireturn, 1, 0, 0, 0, 0), (23, .iinc 5 1, 3, 0, 0, 0, 0), (26, .goto (-23), 3, 0, 0, 0, 0), (29, .iconst (-1), 1, 0, 0, 0, 0), (30, .ireturn, 1, 0, 0, 0, 0)]]
/-- LostKeysModel.findIn([JIIJ)I -/
def rx_m162 : rx_Md := (yX10_findIn, cX10_findIn, 6, (some .int), 4, 0, 0, 0, rx_t162)
def rx_t163 : List (List rx_E) := [
  [(0, .iconst 0, 1, 0, 0, 0, 0), (1, .istore_n 2, 1, 0, 0, 0, 0), (2, .iload_n 2, 1, 0, 0, 0, 0), (3, .bipush 8, 2, 0, 0, 0, 0), (5, .if_icmp .ge 19, 3, 0, 0, 0, 0), (8, .iload_n 1, 1, 0, 0, 0, 0), (9, .iload_n 2, 1, 0, 0, 0, 0), (10, .invokestatic 257, 3, 170, 2, 0, 0), (13, .ifCond .eq 5, 3, 0, 0, 0, 0)],
  [(16, .iload_n 2, 1, 0, 0, 0, 0), (17, .ireturn, 1, 0, 0, 0, 0), (18, .iinc 2 1, 3, 0, 0, 0, 0), (21, .goto (-19), 3, 0, 0, 0, 0), (24, .iconst (-1), 1, 0, 0, 0, 0), (25, .ireturn, 1, 0, 0, 0, 0)]]
/-- LostKeysModel.firstOf(I)I -/
def rx_m163 : rx_Md := (yX10_firstOf, cX10_firstOf, 3, (some .int), 2, 1, 0, 0, rx_t163)
def rx_t164 : List (List rx_E) := [
  [(0, .iconst 0, 1, 0, 0, 0, 0), (1, .istore_n 2, 1, 0, 0, 0, 0), (2, .iconst 0, 1, 0, 0, 0, 0), (3, .istore_n 3, 1, 0, 0, 0, 0), (4, .iload_n 3, 1, 0, 0, 0, 0), (5, .aload_n 0, 1, 0, 0, 0, 0), (6, .getfield 98, 3, 10, 14, 4, 0), (9, .iconst 1, 1, 0, 0, 0, 0), (10, .iaload, 1, 0, 0, 0, 0), (11, .if_icmp .ge 24, 3, 0, 0, 0, 0), (14, .aload_n 0, 1, 0, 0, 0, 0), (15, .iload_n 1, 1, 0, 0, 0, 0)],
  [(16, .iload_n 3, 1, 0, 0, 0, 0), (17, .invokevirtual 250, 3, 212, 3, 14, 0), (20, .ifCond .ne 9, 3, 0, 0, 0, 0), (23, .iload_n 2, 1, 0, 0, 0, 0), (24, .iconst 1, 1, 0, 0, 0, 0), (25, .iload_n 3, 1, 0, 0, 0, 0), (26, .ishl, 1, 0, 0, 0, 0), (27, .ior, 1, 0, 0, 0, 0), (28, .istore_n 2, 1, 0, 0, 0, 0), (29, .iinc 3 1, 3, 0, 0, 0, 0)],
  [(32, .goto (-28), 3, 0, 0, 0, 0), (35, .iload_n 2, 1, 0, 0, 0, 0), (36, .ireturn, 1, 0, 0, 0, 0)]]
/-- LostKeysModel.fitsOf(I)I -/
def rx_m164 : rx_Md := (yX10_fitsOf, cX10_fitsOf, 4, (some .int), 2, 1, 0, 0, rx_t164)
def rx_t165 : List (List rx_E) := [
  [(0, .aload_n 0, 1, 0, 0, 0, 0), (1, .iconst 0, 1, 0, 0, 0, 0), (2, .putfield 1, 3, 10, 0, 0, 0), (5, .aload_n 0, 1, 0, 0, 0, 0), (6, .iload_n 1, 1, 0, 0, 0, 0), (7, .invokevirtual 260, 3, 178, 2, 14, 0), (10, .ifCond .eq 20, 3, 0, 0, 0, 0), (13, .aload_n 0, 1, 0, 0, 0, 0), (14, .iload_n 1, 1, 0, 0, 0, 0), (15, .invokevirtual 242, 3, 194, 2, 14, 0)],
  [(18, .ifCond .eq 12, 3, 0, 0, 0, 0), (21, .aload_n 0, 1, 0, 0, 0, 0), (22, .getfield 98, 3, 10, 14, 4, 0), (25, .iconst 1, 1, 0, 0, 0, 0), (26, .iaload, 1, 0, 0, 0, 0), (27, .ifCond .ne 5, 3, 0, 0, 0, 0), (30, .iconst (-1), 1, 0, 0, 0, 0), (31, .ireturn, 1, 0, 0, 0, 0)],
  [(32, .aload_n 0, 1, 0, 0, 0, 0), (33, .iload_n 1, 1, 0, 0, 0, 0), (34, .aload_n 0, 1, 0, 0, 0, 0), (35, .aload_n 0, 1, 0, 0, 0, 0), (36, .getfield 98, 3, 10, 14, 4, 0), (39, .bipush 85, 2, 0, 0, 0, 0), (41, .iload_n 1, 1, 0, 0, 0, 0), (42, .iadd, 1, 0, 0, 0, 0), (43, .iaload, 1, 0, 0, 0, 0), (44, .aload_n 0, 1, 0, 0, 0, 0), (45, .getfield 98, 3, 10, 14, 4, 0)],
  [(48, .bipush 93, 2, 0, 0, 0, 0), (50, .iload_n 1, 1, 0, 0, 0, 0), (51, .iadd, 1, 0, 0, 0, 0), (52, .iaload, 1, 0, 0, 0, 0), (53, .invokevirtual 307, 3, 208, 3, 14, 0), (56, .invokevirtual 250, 3, 212, 3, 14, 0), (59, .istore_n 2, 1, 0, 0, 0, 0), (60, .iconst 0, 1, 0, 0, 0, 0), (61, .istore_n 3, 1, 0, 0, 0, 0), (62, .aload_n 0, 1, 0, 0, 0, 0), (63, .getfield 98, 3, 10, 14, 4, 0)],
  [(66, .bipush 109, 2, 0, 0, 0, 0), (68, .iload_n 1, 1, 0, 0, 0, 0), (69, .iadd, 1, 0, 0, 0, 0), (70, .iaload, 1, 0, 0, 0, 0), (71, .istore 4, 2, 0, 0, 0, 0), (73, .iload_n 2, 1, 0, 0, 0, 0), (74, .ifCond .le 28, 3, 0, 0, 0, 0), (77, .iinc 4 1, 3, 0, 0, 0, 0)],
  [(80, .iinc 3 1, 3, 0, 0, 0, 0), (83, .iload 4, 2, 0, 0, 0, 0), (85, .aload_n 0, 1, 0, 0, 0, 0), (86, .getfield 98, 3, 10, 14, 4, 0), (89, .bipush 6, 2, 0, 0, 0, 0), (91, .iaload, 1, 0, 0, 0, 0), (92, .irem, 1, 0, 0, 0, 0), (93, .ifCond .ne (-20), 3, 0, 0, 0, 0)],
  [(96, .iinc 2 (-1), 3, 0, 0, 0, 0), (99, .goto (-26), 3, 0, 0, 0, 0), (102, .aload_n 0, 1, 0, 0, 0, 0), (103, .getfield 98, 3, 10, 14, 4, 0), (106, .bipush 64, 2, 0, 0, 0, 0), (108, .iaload, 1, 0, 0, 0, 0), (109, .iload_n 3, 1, 0, 0, 0, 0), (110, .iadd, 1, 0, 0, 0, 0), (111, .sipush 400, 3, 0, 0, 0, 0)],
  [(114, .if_icmp .le 7, 3, 0, 0, 0, 0), (117, .iconst (-1), 1, 0, 0, 0, 0), (118, .goto 4, 3, 0, 0, 0, 0), (121, .iload_n 3, 1, 0, 0, 0, 0), (122, .ireturn, 1, 0, 0, 0, 0)]]
/-- LostKeysModel.fitting(I)I -/
def rx_m165 : rx_Md := (yX10_fitting, cX10_fitting, 5, (some .int), 2, 1, 0, 0, rx_t165)
def rx_t166 : List (List rx_E) := [
  [(0, .aload_n 0, 1, 0, 0, 0, 0), (1, .iconst 0, 1, 0, 0, 0, 0), (2, .putfield 1, 3, 10, 0, 0, 0), (5, .aload_n 0, 1, 0, 0, 0, 0), (6, .invokevirtual 89, 3, 254, 1, 14, 0), (9, .iconst 4, 1, 0, 0, 0, 0), (10, .if_icmp .ne 42, 3, 0, 0, 0, 0), (13, .aload_n 0, 1, 0, 0, 0, 0), (14, .aload_n 0, 1, 0, 0, 0, 0), (15, .getfield 7, 3, 10, 1, 4, 0)],
  [(18, .iconst 0, 1, 0, 0, 0, 0), (19, .iaload, 1, 0, 0, 0, 0), (20, .aload_n 0, 1, 0, 0, 0, 0), (21, .getfield 7, 3, 10, 1, 4, 0), (24, .iconst 1, 1, 0, 0, 0, 0), (25, .iaload, 1, 0, 0, 0, 0), (26, .invokevirtual 304, 3, 173, 3, 14, 0), (29, .ifCond .eq 23, 3, 0, 0, 0, 0)],
  [(32, .aload_n 0, 1, 0, 0, 0, 0), (33, .getfield 7, 3, 10, 1, 4, 0), (36, .iconst 2, 1, 0, 0, 0, 0), (37, .iaload, 1, 0, 0, 0, 0), (38, .bipush 63, 2, 0, 0, 0, 0), (40, .if_icmp .gt 12, 3, 0, 0, 0, 0), (43, .aload_n 0, 1, 0, 0, 0, 0), (44, .getfield 98, 3, 10, 14, 4, 0), (47, .iconst 1, 1, 0, 0, 0, 0)],
  [(48, .iaload, 1, 0, 0, 0, 0), (49, .ifCond .ne 5, 3, 0, 0, 0, 0), (52, .iconst (-1), 1, 0, 0, 0, 0), (53, .ireturn, 1, 0, 0, 0, 0), (54, .aload_n 0, 1, 0, 0, 0, 0), (55, .getfield 7, 3, 10, 1, 4, 0), (58, .iconst 3, 1, 0, 0, 0, 0), (59, .iaload, 1, 0, 0, 0, 0), (60, .aload_n 0, 1, 0, 0, 0, 0), (61, .getfield 98, 3, 10, 14, 4, 0)],
  [(64, .bipush 6, 2, 0, 0, 0, 0), (66, .iaload, 1, 0, 0, 0, 0), (67, .idiv, 1, 0, 0, 0, 0), (68, .istore_n 1, 1, 0, 0, 0, 0), (69, .iconst 0, 1, 0, 0, 0, 0), (70, .istore_n 2, 1, 0, 0, 0, 0), (71, .iconst 0, 1, 0, 0, 0, 0), (72, .istore_n 3, 1, 0, 0, 0, 0), (73, .iload_n 3, 1, 0, 0, 0, 0), (74, .aload_n 0, 1, 0, 0, 0, 0), (75, .getfield 98, 3, 10, 14, 4, 0), (78, .iconst 3, 1, 0, 0, 0, 0), (79, .iaload, 1, 0, 0, 0, 0)],
  [(80, .if_icmp .ge 54, 3, 0, 0, 0, 0), (83, .aload_n 0, 1, 0, 0, 0, 0), (84, .aload_n 0, 1, 0, 0, 0, 0), (85, .getfield 98, 3, 10, 14, 4, 0), (88, .bipush 56, 2, 0, 0, 0, 0), (90, .iload_n 3, 1, 0, 0, 0, 0), (91, .iadd, 1, 0, 0, 0, 0), (92, .iaload, 1, 0, 0, 0, 0), (93, .aload_n 0, 1, 0, 0, 0, 0), (94, .aload_n 0, 1, 0, 0, 0, 0), (95, .getfield 7, 3, 10, 1, 4, 0)],
  [(98, .iconst 0, 1, 0, 0, 0, 0), (99, .iaload, 1, 0, 0, 0, 0), (100, .aload_n 0, 1, 0, 0, 0, 0), (101, .getfield 7, 3, 10, 1, 4, 0), (104, .iconst 1, 1, 0, 0, 0, 0), (105, .iaload, 1, 0, 0, 0, 0), (106, .invokevirtual 307, 3, 208, 3, 14, 0), (109, .iload_n 1, 1, 0, 0, 0, 0), (110, .invokevirtual 358, 3, 149, 4, 14, 0)],
  [(113, .aload_n 0, 1, 0, 0, 0, 0), (114, .getfield 7, 3, 10, 1, 4, 0), (117, .iconst 2, 1, 0, 0, 0, 0), (118, .iaload, 1, 0, 0, 0, 0), (119, .if_icmp .ne 9, 3, 0, 0, 0, 0), (122, .iload_n 2, 1, 0, 0, 0, 0), (123, .iconst 1, 1, 0, 0, 0, 0), (124, .iload_n 3, 1, 0, 0, 0, 0), (125, .ishl, 1, 0, 0, 0, 0), (126, .ior, 1, 0, 0, 0, 0), (127, .istore_n 2, 1, 0, 0, 0, 0)],
  [(128, .iinc 3 1, 3, 0, 0, 0, 0), (131, .goto (-58), 3, 0, 0, 0, 0), (134, .iload_n 2, 1, 0, 0, 0, 0), (135, .ifCond .ne 5, 3, 0, 0, 0, 0), (138, .iconst 0, 1, 0, 0, 0, 0), (139, .ireturn, 1, 0, 0, 0, 0), (140, .sipush 1000, 3, 0, 0, 0, 0), (143, .istore_n 3, 1, 0, 0, 0, 0)],
  [(144, .iconst 0, 1, 0, 0, 0, 0), (145, .istore 4, 2, 0, 0, 0, 0), (147, .iload 4, 2, 0, 0, 0, 0), (149, .aload_n 0, 1, 0, 0, 0, 0), (150, .getfield 98, 3, 10, 14, 4, 0), (153, .iconst 5, 1, 0, 0, 0, 0), (154, .iaload, 1, 0, 0, 0, 0), (155, .if_icmp .ge 65, 3, 0, 0, 0, 0), (158, .iconst 0, 1, 0, 0, 0, 0), (159, .istore 5, 2, 0, 0, 0, 0)],
  [(161, .iload 5, 2, 0, 0, 0, 0), (163, .aload_n 0, 1, 0, 0, 0, 0), (164, .getfield 98, 3, 10, 14, 4, 0), (167, .iconst 4, 1, 0, 0, 0, 0), (168, .iaload, 1, 0, 0, 0, 0), (169, .if_icmp .ge 45, 3, 0, 0, 0, 0), (172, .aload_n 0, 1, 0, 0, 0, 0), (173, .iload 5, 2, 0, 0, 0, 0), (175, .iload 4, 2, 0, 0, 0, 0)],
  [(177, .iload_n 2, 1, 0, 0, 0, 0), (178, .iload_n 1, 1, 0, 0, 0, 0), (179, .invokevirtual 362, 3, 143, 5, 14, 0), (182, .istore 6, 2, 0, 0, 0, 0), (184, .iload 6, 2, 0, 0, 0, 0), (186, .iload_n 3, 1, 0, 0, 0, 0), (187, .if_icmp .lt 6, 3, 0, 0, 0, 0), (190, .goto 18, 3, 0, 0, 0, 0)],
  [(193, .iload 6, 2, 0, 0, 0, 0), (195, .istore_n 3, 1, 0, 0, 0, 0), (196, .aload_n 0, 1, 0, 0, 0, 0), (197, .bipush 6, 2, 0, 0, 0, 0), (199, .iload 4, 2, 0, 0, 0, 0), (201, .imul, 1, 0, 0, 0, 0), (202, .iload 5, 2, 0, 0, 0, 0), (204, .iadd, 1, 0, 0, 0, 0), (205, .putfield 151, 3, 10, 35, 0, 0)],
  [(208, .iinc 5 1, 3, 0, 0, 0, 0), (211, .goto (-50), 3, 0, 0, 0, 0), (214, .iinc 4 1, 3, 0, 0, 0, 0), (217, .goto (-70), 3, 0, 0, 0, 0), (220, .iload_n 2, 1, 0, 0, 0, 0), (221, .ireturn, 1, 0, 0, 0, 0)]]
/-- LostKeysModel.found()I -/
def rx_m166 : rx_Md := (yX10_found, cX10_found, 7, (some .int), 1, 1, 0, 0, rx_t166)
def rx_t167 : List (List rx_E) := [
  [(0, .aload_n 0, 1, 0, 0, 0, 0), (1, .getfield 21, 3, 10, 5, 0, 0), (4, .aload_n 0, 1, 0, 0, 0, 0), (5, .getfield 18, 3, 10, 3, 0, 0), (8, .if_icmp .ge 44, 3, 0, 0, 0, 0), (11, .aload_n 0, 1, 0, 0, 0, 0), (12, .getfield 7, 3, 10, 1, 4, 0), (15, .aload_n 0, 1, 0, 0, 0, 0)],
  [(16, .getfield 21, 3, 10, 5, 0, 0), (19, .iaload, 1, 0, 0, 0, 0), (20, .bipush 32, 2, 0, 0, 0, 0), (22, .if_icmp .eq 17, 3, 0, 0, 0, 0), (25, .aload_n 0, 1, 0, 0, 0, 0), (26, .getfield 7, 3, 10, 1, 4, 0), (29, .aload_n 0, 1, 0, 0, 0, 0), (30, .getfield 21, 3, 10, 5, 0, 0)],
  [(33, .iaload, 1, 0, 0, 0, 0), (34, .bipush 10, 2, 0, 0, 0, 0), (36, .if_icmp .ne 16, 3, 0, 0, 0, 0), (39, .aload_n 0, 1, 0, 0, 0, 0), (40, .dup, 1, 0, 0, 0, 0), (41, .getfield 21, 3, 10, 5, 0, 0), (44, .iconst 1, 1, 0, 0, 0, 0), (45, .iadd, 1, 0, 0, 0, 0), (46, .putfield 21, 3, 10, 5, 0, 0)],
  [(49, .goto (-49), 3, 0, 0, 0, 0), (52, .aload_n 0, 1, 0, 0, 0, 0), (53, .aload_n 0, 1, 0, 0, 0, 0), (54, .getfield 21, 3, 10, 5, 0, 0), (57, .putfield 24, 3, 10, 6, 0, 0), (60, .aload_n 0, 1, 0, 0, 0, 0), (61, .getfield 18, 3, 10, 3, 0, 0)],
  [(64, .aload_n 0, 1, 0, 0, 0, 0), (65, .getfield 27, 3, 10, 4, 0, 0), (68, .if_icmp .le 28, 3, 0, 0, 0, 0), (71, .aload_n 0, 1, 0, 0, 0, 0), (72, .getfield 24, 3, 10, 6, 0, 0), (75, .aload_n 0, 1, 0, 0, 0, 0), (76, .getfield 27, 3, 10, 4, 0, 0), (79, .if_icmp .lt 17, 3, 0, 0, 0, 0)],
  [(82, .aload_n 0, 1, 0, 0, 0, 0), (83, .aload_n 0, 1, 0, 0, 0, 0), (84, .getfield 27, 3, 10, 4, 0, 0), (87, .putfield 24, 3, 10, 6, 0, 0), (90, .aload_n 0, 1, 0, 0, 0, 0), (91, .iconst 1, 1, 0, 0, 0, 0), (92, .putfield 30, 3, 10, 7, 0, 0), (95, .return_, 1, 0, 0, 0, 0)],
  [(96, .aload_n 0, 1, 0, 0, 0, 0), (97, .getfield 21, 3, 10, 5, 0, 0), (100, .aload_n 0, 1, 0, 0, 0, 0), (101, .getfield 18, 3, 10, 3, 0, 0), (104, .if_icmp .lt 9, 3, 0, 0, 0, 0), (107, .aload_n 0, 1, 0, 0, 0, 0), (108, .iconst 0, 1, 0, 0, 0, 0), (109, .putfield 30, 3, 10, 7, 0, 0)],
  [(112, .return_, 1, 0, 0, 0, 0), (113, .aload_n 0, 1, 0, 0, 0, 0), (114, .getfield 7, 3, 10, 1, 4, 0), (117, .aload_n 0, 1, 0, 0, 0, 0), (118, .getfield 21, 3, 10, 5, 0, 0), (121, .iaload, 1, 0, 0, 0, 0), (122, .istore_n 1, 1, 0, 0, 0, 0), (123, .iload_n 1, 1, 0, 0, 0, 0), (124, .invokestatic 33, 3, 179, 1, 0, 0), (127, .ifCond .ne 71, 3, 0, 0, 0, 0)],
  [(130, .iload_n 1, 1, 0, 0, 0, 0), (131, .invokestatic 37, 3, 174, 1, 0, 0), (134, .ifCond .ne 64, 3, 0, 0, 0, 0), (137, .aload_n 0, 1, 0, 0, 0, 0), (138, .iload_n 1, 1, 0, 0, 0, 0), (139, .bipush 59, 2, 0, 0, 0, 0), (141, .if_icmp .eq 33, 3, 0, 0, 0, 0)],
  [(144, .iload_n 1, 1, 0, 0, 0, 0), (145, .bipush 60, 2, 0, 0, 0, 0), (147, .if_icmp .eq 27, 3, 0, 0, 0, 0), (150, .iload_n 1, 1, 0, 0, 0, 0), (151, .bipush 61, 2, 0, 0, 0, 0), (153, .if_icmp .eq 21, 3, 0, 0, 0, 0), (156, .iload_n 1, 1, 0, 0, 0, 0), (157, .bipush 62, 2, 0, 0, 0, 0), (159, .if_icmp .eq 15, 3, 0, 0, 0, 0)],
  [(162, .iload_n 1, 1, 0, 0, 0, 0), (163, .bipush 40, 2, 0, 0, 0, 0), (165, .if_icmp .eq 9, 3, 0, 0, 0, 0), (168, .iload_n 1, 1, 0, 0, 0, 0), (169, .bipush 41, 2, 0, 0, 0, 0), (171, .if_icmp .ne 7, 3, 0, 0, 0, 0), (174, .iconst 4, 1, 0, 0, 0, 0), (175, .goto 4, 3, 0, 0, 0, 0)],
  [(178, .iconst 1, 1, 0, 0, 0, 0), (179, .putfield 30, 3, 10, 7, 0, 0), (182, .aload_n 0, 1, 0, 0, 0, 0), (183, .iload_n 1, 1, 0, 0, 0, 0), (184, .putfield 40, 3, 10, 9, 0, 0), (187, .aload_n 0, 1, 0, 0, 0, 0), (188, .dup, 1, 0, 0, 0, 0), (189, .getfield 21, 3, 10, 5, 0, 0)],
  [(192, .iconst 1, 1, 0, 0, 0, 0), (193, .iadd, 1, 0, 0, 0, 0), (194, .putfield 21, 3, 10, 5, 0, 0), (197, .return_, 1, 0, 0, 0, 0), (198, .iload_n 1, 1, 0, 0, 0, 0), (199, .invokestatic 33, 3, 179, 1, 0, 0), (202, .istore_n 2, 1, 0, 0, 0, 0), (203, .iconst 1, 1, 0, 0, 0, 0), (204, .istore_n 3, 1, 0, 0, 0, 0), (205, .aload_n 0, 1, 0, 0, 0, 0), (206, .lconst 0, 1, 0, 0, 0, 0), (207, .putfield 43, 3, 10, 12, 3, 0)],
  [(210, .aload_n 0, 1, 0, 0, 0, 0), (211, .iconst 0, 1, 0, 0, 0, 0), (212, .putfield 47, 3, 10, 8, 0, 0), (215, .aload_n 0, 1, 0, 0, 0, 0), (216, .aload_n 0, 1, 0, 0, 0, 0), (217, .getfield 21, 3, 10, 5, 0, 0), (220, .invokevirtual 50, 3, 256, 2, 14, 0), (223, .invokestatic 33, 3, 179, 1, 0, 0)],
  [(226, .ifCond .ne 17, 3, 0, 0, 0, 0), (229, .aload_n 0, 1, 0, 0, 0, 0), (230, .aload_n 0, 1, 0, 0, 0, 0), (231, .getfield 21, 3, 10, 5, 0, 0), (234, .invokevirtual 50, 3, 256, 2, 14, 0), (237, .invokestatic 37, 3, 174, 1, 0, 0)],
  [(240, .ifCond .eq 110, 3, 0, 0, 0, 0), (243, .aload_n 0, 1, 0, 0, 0, 0), (244, .getfield 7, 3, 10, 1, 4, 0), (247, .aload_n 0, 1, 0, 0, 0, 0), (248, .getfield 21, 3, 10, 5, 0, 0), (251, .iaload, 1, 0, 0, 0, 0), (252, .istore 4, 2, 0, 0, 0, 0), (254, .iload_n 3, 1, 0, 0, 0, 0), (255, .ifCond .eq 16, 3, 0, 0, 0, 0)],
  [(258, .iload 4, 2, 0, 0, 0, 0), (260, .invokestatic 33, 3, 179, 1, 0, 0), (263, .iload_n 2, 1, 0, 0, 0, 0), (264, .if_icmp .ne 7, 3, 0, 0, 0, 0), (267, .iconst 1, 1, 0, 0, 0, 0), (268, .goto 4, 3, 0, 0, 0, 0), (271, .iconst 0, 1, 0, 0, 0, 0)],
  [(272, .istore_n 3, 1, 0, 0, 0, 0), (273, .aload_n 0, 1, 0, 0, 0, 0), (274, .getfield 21, 3, 10, 5, 0, 0), (277, .aload_n 0, 1, 0, 0, 0, 0), (278, .getfield 24, 3, 10, 6, 0, 0), (281, .isub, 1, 0, 0, 0, 0), (282, .bipush 7, 2, 0, 0, 0, 0), (284, .if_icmp .ge 23, 3, 0, 0, 0, 0), (287, .aload_n 0, 1, 0, 0, 0, 0)],
  [(288, .ldc2_w 54, 3, 0, 0, 1, 27), (291, .aload_n 0, 1, 0, 0, 0, 0), (292, .getfield 43, 3, 10, 12, 3, 0), (295, .lmul, 1, 0, 0, 0, 0), (296, .iload 4, 2, 0, 0, 0, 0), (298, .i2l, 1, 0, 0, 0, 0), (299, .ladd, 1, 0, 0, 0, 0), (300, .ldc2_w 56, 3, 0, 0, 1, 96), (303, .lsub, 1, 0, 0, 0, 0)],
  [(304, .putfield 43, 3, 10, 12, 3, 0), (307, .aload_n 0, 1, 0, 0, 0, 0), (308, .getfield 21, 3, 10, 5, 0, 0), (311, .aload_n 0, 1, 0, 0, 0, 0), (312, .getfield 24, 3, 10, 6, 0, 0), (315, .isub, 1, 0, 0, 0, 0), (316, .iconst 3, 1, 0, 0, 0, 0), (317, .if_icmp .ge 20, 3, 0, 0, 0, 0)],
  [(320, .aload_n 0, 1, 0, 0, 0, 0), (321, .bipush 10, 2, 0, 0, 0, 0), (323, .aload_n 0, 1, 0, 0, 0, 0), (324, .getfield 47, 3, 10, 8, 0, 0), (327, .imul, 1, 0, 0, 0, 0), (328, .iload 4, 2, 0, 0, 0, 0), (330, .iadd, 1, 0, 0, 0, 0), (331, .bipush 48, 2, 0, 0, 0, 0), (333, .isub, 1, 0, 0, 0, 0), (334, .putfield 47, 3, 10, 8, 0, 0)],
  [(337, .aload_n 0, 1, 0, 0, 0, 0), (338, .dup, 1, 0, 0, 0, 0), (339, .getfield 21, 3, 10, 5, 0, 0), (342, .iconst 1, 1, 0, 0, 0, 0), (343, .iadd, 1, 0, 0, 0, 0), (344, .putfield 21, 3, 10, 5, 0, 0), (347, .goto (-132), 3, 0, 0, 0, 0), (350, .aload_n 0, 1, 0, 0, 0, 0), (351, .iload_n 3, 1, 0, 0, 0, 0)],
  [(352, .ifCond .eq 25, 3, 0, 0, 0, 0), (355, .aload_n 0, 1, 0, 0, 0, 0), (356, .getfield 21, 3, 10, 5, 0, 0), (359, .aload_n 0, 1, 0, 0, 0, 0), (360, .getfield 24, 3, 10, 6, 0, 0), (363, .isub, 1, 0, 0, 0, 0), (364, .iload_n 2, 1, 0, 0, 0, 0), (365, .ifCond .eq 8, 3, 0, 0, 0, 0)],
  [(368, .bipush 7, 2, 0, 0, 0, 0), (370, .goto 4, 3, 0, 0, 0, 0), (373, .iconst 3, 1, 0, 0, 0, 0), (374, .if_icmp .le 7, 3, 0, 0, 0, 0), (377, .iconst 1, 1, 0, 0, 0, 0), (378, .goto 12, 3, 0, 0, 0, 0), (381, .iload_n 2, 1, 0, 0, 0, 0), (382, .ifCond .eq 7, 3, 0, 0, 0, 0)],
  [(385, .iconst 2, 1, 0, 0, 0, 0), (386, .goto 4, 3, 0, 0, 0, 0), (389, .iconst 3, 1, 0, 0, 0, 0), (390, .putfield 30, 3, 10, 7, 0, 0), (393, .return_, 1, 0, 0, 0, 0)]]
/-- LostKeysModel.go()V -/
def rx_m167 : rx_Md := (yX10_go, cX10_go, 5, none, 1, 1, 0, 0, rx_t167)
def rx_t168 : List (List rx_E) := [
  [(0, .aload_n 0, 1, 0, 0, 0, 0), (1, .getfield 163, 3, 10, 41, 4, 0), (4, .iload_n 1, 1, 0, 0, 0, 0), (5, .iconst 2, 1, 0, 0, 0, 0), (6, .iadd, 1, 0, 0, 0, 0), (7, .iaload, 1, 0, 0, 0, 0), (8, .istore_n 2, 1, 0, 0, 0, 0), (9, .aload_n 0, 1, 0, 0, 0, 0), (10, .getfield 163, 3, 10, 41, 4, 0), (13, .iload_n 1, 1, 0, 0, 0, 0), (14, .iconst 3, 1, 0, 0, 0, 0), (15, .iadd, 1, 0, 0, 0, 0)],
  [(16, .iaload, 1, 0, 0, 0, 0), (17, .istore_n 3, 1, 0, 0, 0, 0), (18, .aload_n 0, 1, 0, 0, 0, 0), (19, .getfield 163, 3, 10, 41, 4, 0), (22, .iload_n 1, 1, 0, 0, 0, 0), (23, .iaload, 1, 0, 0, 0, 0), (24, .iconst 4, 1, 0, 0, 0, 0), (25, .if_icmp .ne 29, 3, 0, 0, 0, 0), (28, .aload_n 0, 1, 0, 0, 0, 0), (29, .getfield 98, 3, 10, 14, 4, 0)],
  [(32, .bipush 64, 2, 0, 0, 0, 0), (34, .iaload, 1, 0, 0, 0, 0), (35, .iload_n 2, 1, 0, 0, 0, 0), (36, .iadd, 1, 0, 0, 0, 0), (37, .sipush 400, 3, 0, 0, 0, 0), (40, .if_icmp .le 6, 3, 0, 0, 0, 0), (43, .bipush 41, 2, 0, 0, 0, 0), (45, .ireturn, 1, 0, 0, 0, 0), (46, .aload_n 0, 1, 0, 0, 0, 0), (47, .iload_n 2, 1, 0, 0, 0, 0)],
  [(48, .invokevirtual 322, 3, 217, 2, 14, 0), (51, .pop, 1, 0, 0, 0, 0), (52, .iconst 0, 1, 0, 0, 0, 0), (53, .ireturn, 1, 0, 0, 0, 0), (54, .aload_n 0, 1, 0, 0, 0, 0), (55, .getfield 163, 3, 10, 41, 4, 0), (58, .iload_n 1, 1, 0, 0, 0, 0), (59, .iaload, 1, 0, 0, 0, 0), (60, .iconst 3, 1, 0, 0, 0, 0), (61, .if_icmp .ne 15, 3, 0, 0, 0, 0)],
  [(64, .aload_n 0, 1, 0, 0, 0, 0), (65, .iload_n 2, 1, 0, 0, 0, 0), (66, .iload_n 3, 1, 0, 0, 0, 0), (67, .invokevirtual 304, 3, 173, 3, 14, 0), (70, .ifCond .ne 6, 3, 0, 0, 0, 0), (73, .bipush 39, 2, 0, 0, 0, 0), (75, .ireturn, 1, 0, 0, 0, 0), (76, .aload_n 0, 1, 0, 0, 0, 0), (77, .aload_n 0, 1, 0, 0, 0, 0), (78, .getfield 163, 3, 10, 41, 4, 0)],
  [(81, .iload_n 1, 1, 0, 0, 0, 0), (82, .iaload, 1, 0, 0, 0, 0), (83, .aload_n 0, 1, 0, 0, 0, 0), (84, .getfield 163, 3, 10, 41, 4, 0), (87, .iload_n 1, 1, 0, 0, 0, 0), (88, .iconst 1, 1, 0, 0, 0, 0), (89, .iadd, 1, 0, 0, 0, 0), (90, .iaload, 1, 0, 0, 0, 0), (91, .iload_n 2, 1, 0, 0, 0, 0), (92, .iload_n 3, 1, 0, 0, 0, 0), (93, .invokevirtual 290, 3, 267, 5, 14, 0)],
  [(96, .istore 4, 2, 0, 0, 0, 0), (98, .iload 4, 2, 0, 0, 0, 0), (100, .ifCond .eq 16, 3, 0, 0, 0, 0), (103, .bipush 10, 2, 0, 0, 0, 0), (105, .aload_n 0, 1, 0, 0, 0, 0), (106, .getfield 163, 3, 10, 41, 4, 0), (109, .iload_n 1, 1, 0, 0, 0, 0), (110, .iaload, 1, 0, 0, 0, 0), (111, .imul, 1, 0, 0, 0, 0)],
  [(112, .iload 4, 2, 0, 0, 0, 0), (114, .iadd, 1, 0, 0, 0, 0), (115, .ireturn, 1, 0, 0, 0, 0), (116, .aload_n 0, 1, 0, 0, 0, 0), (117, .aload_n 0, 1, 0, 0, 0, 0), (118, .getfield 163, 3, 10, 41, 4, 0), (121, .iload_n 1, 1, 0, 0, 0, 0), (122, .iaload, 1, 0, 0, 0, 0), (123, .aload_n 0, 1, 0, 0, 0, 0), (124, .getfield 163, 3, 10, 41, 4, 0), (127, .iload_n 1, 1, 0, 0, 0, 0)],
  [(128, .iconst 1, 1, 0, 0, 0, 0), (129, .iadd, 1, 0, 0, 0, 0), (130, .iaload, 1, 0, 0, 0, 0), (131, .iload_n 2, 1, 0, 0, 0, 0), (132, .iload_n 3, 1, 0, 0, 0, 0), (133, .invokevirtual 297, 3, 195, 5, 14, 0), (136, .iconst 0, 1, 0, 0, 0, 0), (137, .ireturn, 1, 0, 0, 0, 0)]]
/-- LostKeysModel.goBy(I)I -/
def rx_m168 : rx_Md := (yX10_goBy, cX10_goBy, 5, (some .int), 2, 1, 0, 0, rx_t168)
def rx_t169 : List (List rx_E) := [
  [(0, .iconst 0, 1, 0, 0, 0, 0), (1, .istore_n 2, 1, 0, 0, 0, 0), (2, .iconst 0, 1, 0, 0, 0, 0), (3, .istore_n 3, 1, 0, 0, 0, 0), (4, .iload_n 3, 1, 0, 0, 0, 0), (5, .aload_n 0, 1, 0, 0, 0, 0), (6, .getfield 98, 3, 10, 14, 4, 0), (9, .iconst 3, 1, 0, 0, 0, 0), (10, .iaload, 1, 0, 0, 0, 0), (11, .if_icmp .ge 28, 3, 0, 0, 0, 0), (14, .aload_n 0, 1, 0, 0, 0, 0), (15, .getfield 98, 3, 10, 14, 4, 0)],
  [(18, .bipush 77, 2, 0, 0, 0, 0), (20, .iload_n 3, 1, 0, 0, 0, 0), (21, .iadd, 1, 0, 0, 0, 0), (22, .iaload, 1, 0, 0, 0, 0), (23, .iload_n 1, 1, 0, 0, 0, 0), (24, .if_icmp .ne 9, 3, 0, 0, 0, 0), (27, .iload_n 2, 1, 0, 0, 0, 0), (28, .iconst 1, 1, 0, 0, 0, 0), (29, .iload_n 3, 1, 0, 0, 0, 0), (30, .ishl, 1, 0, 0, 0, 0), (31, .ior, 1, 0, 0, 0, 0)],
  [(32, .istore_n 2, 1, 0, 0, 0, 0), (33, .iinc 3 1, 3, 0, 0, 0, 0), (36, .goto (-32), 3, 0, 0, 0, 0), (39, .iload_n 2, 1, 0, 0, 0, 0), (40, .ireturn, 1, 0, 0, 0, 0)]]
/-- LostKeysModel.hadBy(I)I -/
def rx_m169 : rx_Md := (yX10_hadBy, cX10_hadBy, 4, (some .int), 2, 1, 0, 0, rx_t169)
def rx_t170 : List (List rx_E) := [
  [(0, .iload_n 0, 1, 0, 0, 0, 0), (1, .iload_n 1, 1, 0, 0, 0, 0), (2, .ishr, 1, 0, 0, 0, 0), (3, .iconst 1, 1, 0, 0, 0, 0), (4, .iand, 1, 0, 0, 0, 0), (5, .iconst 1, 1, 0, 0, 0, 0), (6, .if_icmp .ne 7, 3, 0, 0, 0, 0), (9, .iconst 1, 1, 0, 0, 0, 0), (10, .goto 4, 3, 0, 0, 0, 0), (13, .iconst 0, 1, 0, 0, 0, 0), (14, .ireturn, 1, 0, 0, 0, 0)]]
/-- LostKeysModel.has(II)Z -/
def rx_m170 : rx_Md := (yX10_has, cX10_has, 2, (some .boolean), 2, 0, 0, 0, rx_t170)
def rx_t171 : List (List rx_E) := [
  [(0, .bipush 127, 2, 0, 0, 0, 0), (2, .iconst 4, 1, 0, 0, 0, 0), (3, .iload_n 1, 1, 0, 0, 0, 0), (4, .imul, 1, 0, 0, 0, 0), (5, .iadd, 1, 0, 0, 0, 0), (6, .istore_n 3, 1, 0, 0, 0, 0), (7, .aload_n 0, 1, 0, 0, 0, 0), (8, .getfield 98, 3, 10, 14, 4, 0), (11, .iload_n 3, 1, 0, 0, 0, 0), (12, .iconst 1, 1, 0, 0, 0, 0), (13, .iadd, 1, 0, 0, 0, 0), (14, .iaload, 1, 0, 0, 0, 0), (15, .istore 4, 2, 0, 0, 0, 0)],
  [(17, .aload_n 0, 1, 0, 0, 0, 0), (18, .getfield 98, 3, 10, 14, 4, 0), (21, .iload_n 3, 1, 0, 0, 0, 0), (22, .iconst 2, 1, 0, 0, 0, 0), (23, .iadd, 1, 0, 0, 0, 0), (24, .iaload, 1, 0, 0, 0, 0), (25, .istore 5, 2, 0, 0, 0, 0), (27, .aload_n 0, 1, 0, 0, 0, 0), (28, .getfield 98, 3, 10, 14, 4, 0), (31, .iload_n 3, 1, 0, 0, 0, 0)],
  [(32, .iaload, 1, 0, 0, 0, 0), (33, .lookupswitch 230 #[(1, 75), (2, 91), (3, 117), (65, 143), (66, 149), (67, 169), (68, 189), (69, 205)], 75, 0, 0, 0, 0)],
  [],
  [],
  [],
  [(108, .aload_n 0, 1, 0, 0, 0, 0), (109, .iload 4, 2, 0, 0, 0, 0), (111, .iload_n 2, 1, 0, 0, 0, 0)],
  [(112, .invokevirtual 464, 3, 171, 3, 14, 0), (115, .ifCond .ne 7, 3, 0, 0, 0, 0), (118, .iconst 1, 1, 0, 0, 0, 0), (119, .goto 4, 3, 0, 0, 0, 0), (122, .iconst 0, 1, 0, 0, 0, 0), (123, .ireturn, 1, 0, 0, 0, 0), (124, .aload_n 0, 1, 0, 0, 0, 0), (125, .iload 4, 2, 0, 0, 0, 0), (127, .iload_n 2, 1, 0, 0, 0, 0)],
  [(128, .invokevirtual 464, 3, 171, 3, 14, 0), (131, .ifCond .eq 17, 3, 0, 0, 0, 0), (134, .aload_n 0, 1, 0, 0, 0, 0), (135, .iload 5, 2, 0, 0, 0, 0), (137, .iload_n 2, 1, 0, 0, 0, 0), (138, .invokevirtual 464, 3, 171, 3, 14, 0), (141, .ifCond .eq 7, 3, 0, 0, 0, 0)],
  [(144, .iconst 1, 1, 0, 0, 0, 0), (145, .goto 4, 3, 0, 0, 0, 0), (148, .iconst 0, 1, 0, 0, 0, 0), (149, .ireturn, 1, 0, 0, 0, 0), (150, .aload_n 0, 1, 0, 0, 0, 0), (151, .iload 4, 2, 0, 0, 0, 0), (153, .iload_n 2, 1, 0, 0, 0, 0), (154, .invokevirtual 464, 3, 171, 3, 14, 0), (157, .ifCond .ne 13, 3, 0, 0, 0, 0)],
  [(160, .aload_n 0, 1, 0, 0, 0, 0), (161, .iload 5, 2, 0, 0, 0, 0), (163, .iload_n 2, 1, 0, 0, 0, 0), (164, .invokevirtual 464, 3, 171, 3, 14, 0), (167, .ifCond .eq 7, 3, 0, 0, 0, 0), (170, .iconst 1, 1, 0, 0, 0, 0), (171, .goto 4, 3, 0, 0, 0, 0), (174, .iconst 0, 1, 0, 0, 0, 0), (175, .ireturn, 1, 0, 0, 0, 0)],
  [(176, .aload_n 0, 1, 0, 0, 0, 0), (177, .iload_n 2, 1, 0, 0, 0, 0), (178, .invokevirtual 242, 3, 194, 2, 14, 0), (181, .ireturn, 1, 0, 0, 0, 0), (182, .aload_n 0, 1, 0, 0, 0, 0), (183, .getfield 98, 3, 10, 14, 4, 0), (186, .bipush 48, 2, 0, 0, 0, 0), (188, .iload_n 2, 1, 0, 0, 0, 0), (189, .iadd, 1, 0, 0, 0, 0), (190, .iaload, 1, 0, 0, 0, 0), (191, .iload 4, 2, 0, 0, 0, 0)],
  [(193, .if_icmp .ne 7, 3, 0, 0, 0, 0), (196, .iconst 1, 1, 0, 0, 0, 0), (197, .goto 4, 3, 0, 0, 0, 0), (200, .iconst 0, 1, 0, 0, 0, 0), (201, .ireturn, 1, 0, 0, 0, 0), (202, .aload_n 0, 1, 0, 0, 0, 0), (203, .getfield 98, 3, 10, 14, 4, 0), (206, .bipush 77, 2, 0, 0, 0, 0)],
  [(208, .iload_n 2, 1, 0, 0, 0, 0), (209, .iadd, 1, 0, 0, 0, 0), (210, .iaload, 1, 0, 0, 0, 0), (211, .iload 4, 2, 0, 0, 0, 0), (213, .if_icmp .ne 7, 3, 0, 0, 0, 0), (216, .iconst 1, 1, 0, 0, 0, 0), (217, .goto 4, 3, 0, 0, 0, 0), (220, .iconst 0, 1, 0, 0, 0, 0), (221, .ireturn, 1, 0, 0, 0, 0), (222, .aload_n 0, 1, 0, 0, 0, 0), (223, .iload_n 2, 1, 0, 0, 0, 0)],
  [(224, .iload 4, 2, 0, 0, 0, 0), (226, .invokevirtual 250, 3, 212, 3, 14, 0), (229, .ifCond .ne 7, 3, 0, 0, 0, 0), (232, .iconst 1, 1, 0, 0, 0, 0), (233, .goto 4, 3, 0, 0, 0, 0), (236, .iconst 0, 1, 0, 0, 0, 0), (237, .ireturn, 1, 0, 0, 0, 0), (238, .aload_n 0, 1, 0, 0, 0, 0), (239, .aload_n 0, 1, 0, 0, 0, 0)],
  [(240, .iload_n 2, 1, 0, 0, 0, 0), (241, .invokevirtual 266, 3, 272, 2, 14, 0), (244, .aload_n 0, 1, 0, 0, 0, 0), (245, .iload_n 2, 1, 0, 0, 0, 0), (246, .invokevirtual 269, 3, 273, 2, 14, 0), (249, .invokevirtual 307, 3, 208, 3, 14, 0), (252, .iload 4, 2, 0, 0, 0, 0), (254, .if_icmp .ne 7, 3, 0, 0, 0, 0)],
  [(257, .iconst 1, 1, 0, 0, 0, 0), (258, .goto 4, 3, 0, 0, 0, 0), (261, .iconst 0, 1, 0, 0, 0, 0), (262, .ireturn, 1, 0, 0, 0, 0), (263, .aload_n 0, 1, 0, 0, 0, 0), (264, .getfield 98, 3, 10, 14, 4, 0), (267, .iload_n 3, 1, 0, 0, 0, 0), (268, .iaload, 1, 0, 0, 0, 0), (269, .bipush 50, 2, 0, 0, 0, 0), (271, .isub, 1, 0, 0, 0, 0)],
  [(272, .istore 6, 2, 0, 0, 0, 0), (274, .iload 6, 2, 0, 0, 0, 0), (276, .bipush 20, 2, 0, 0, 0, 0), (278, .if_icmp .ne 15, 3, 0, 0, 0, 0), (281, .aload_n 0, 1, 0, 0, 0, 0), (282, .getfield 98, 3, 10, 14, 4, 0), (285, .bipush 101, 2, 0, 0, 0, 0), (287, .iload_n 2, 1, 0, 0, 0, 0)],
  [(288, .iadd, 1, 0, 0, 0, 0), (289, .iaload, 1, 0, 0, 0, 0), (290, .goto 42, 3, 0, 0, 0, 0), (293, .iload 6, 2, 0, 0, 0, 0), (295, .bipush 21, 2, 0, 0, 0, 0), (297, .if_icmp .ne 15, 3, 0, 0, 0, 0), (300, .aload_n 0, 1, 0, 0, 0, 0), (301, .getfield 98, 3, 10, 14, 4, 0)],
  [(304, .bipush 109, 2, 0, 0, 0, 0), (306, .iload_n 2, 1, 0, 0, 0, 0), (307, .iadd, 1, 0, 0, 0, 0), (308, .iaload, 1, 0, 0, 0, 0), (309, .goto 23, 3, 0, 0, 0, 0), (312, .iload 6, 2, 0, 0, 0, 0), (314, .bipush 22, 2, 0, 0, 0, 0), (316, .if_icmp .ne 15, 3, 0, 0, 0, 0), (319, .aload_n 0, 1, 0, 0, 0, 0)],
  [(320, .getfield 98, 3, 10, 14, 4, 0), (323, .bipush 117, 2, 0, 0, 0, 0), (325, .iload_n 2, 1, 0, 0, 0, 0), (326, .iadd, 1, 0, 0, 0, 0), (327, .iaload, 1, 0, 0, 0, 0), (328, .goto 4, 3, 0, 0, 0, 0), (331, .iload_n 2, 1, 0, 0, 0, 0), (332, .istore 7, 2, 0, 0, 0, 0), (334, .aload_n 0, 1, 0, 0, 0, 0), (335, .getfield 98, 3, 10, 14, 4, 0)],
  [(338, .iload_n 3, 1, 0, 0, 0, 0), (339, .iconst 3, 1, 0, 0, 0, 0), (340, .iadd, 1, 0, 0, 0, 0), (341, .iaload, 1, 0, 0, 0, 0), (342, .bipush 60, 2, 0, 0, 0, 0), (344, .if_icmp .ne 18, 3, 0, 0, 0, 0), (347, .iload 7, 2, 0, 0, 0, 0), (349, .iload 5, 2, 0, 0, 0, 0), (351, .if_icmp .ge 7, 3, 0, 0, 0, 0)],
  [(354, .iconst 1, 1, 0, 0, 0, 0), (355, .goto 47, 3, 0, 0, 0, 0), (358, .iconst 0, 1, 0, 0, 0, 0), (359, .goto 43, 3, 0, 0, 0, 0), (362, .aload_n 0, 1, 0, 0, 0, 0), (363, .getfield 98, 3, 10, 14, 4, 0), (366, .iload_n 3, 1, 0, 0, 0, 0), (367, .iconst 3, 1, 0, 0, 0, 0)],
  [(368, .iadd, 1, 0, 0, 0, 0), (369, .iaload, 1, 0, 0, 0, 0), (370, .bipush 61, 2, 0, 0, 0, 0), (372, .if_icmp .ne 18, 3, 0, 0, 0, 0), (375, .iload 7, 2, 0, 0, 0, 0), (377, .iload 5, 2, 0, 0, 0, 0), (379, .if_icmp .ne 7, 3, 0, 0, 0, 0), (382, .iconst 1, 1, 0, 0, 0, 0), (383, .goto 19, 3, 0, 0, 0, 0)],
  [(386, .iconst 0, 1, 0, 0, 0, 0), (387, .goto 15, 3, 0, 0, 0, 0), (390, .iload 7, 2, 0, 0, 0, 0), (392, .iload 5, 2, 0, 0, 0, 0), (394, .if_icmp .le 7, 3, 0, 0, 0, 0), (397, .iconst 1, 1, 0, 0, 0, 0), (398, .goto 4, 3, 0, 0, 0, 0)],
  [(401, .iconst 0, 1, 0, 0, 0, 0), (402, .ireturn, 1, 0, 0, 0, 0)]]
/-- LostKeysModel.holds(II)Z -/
def rx_m171 : rx_Md := (yX10_holds, cX10_holds, 8, (some .boolean), 3, 1, 0, 0, rx_t171)
def rx_t172 : List (List rx_E) := [
  [(0, .aload_n 0, 1, 0, 0, 0, 0), (1, .iconst 0, 1, 0, 0, 0, 0), (2, .putfield 1, 3, 10, 0, 0, 0), (5, .iload_n 1, 1, 0, 0, 0, 0), (6, .iconst 0, 1, 0, 0, 0, 0), (7, .iconst 1, 1, 0, 0, 0, 0), (8, .invokestatic 75, 3, 177, 3, 0, 0), (11, .ifCond .ne 5, 3, 0, 0, 0, 0), (14, .iconst 0, 1, 0, 0, 0, 0), (15, .ireturn, 1, 0, 0, 0, 0)],
  [(16, .iconst 0, 1, 0, 0, 0, 0), (17, .istore_n 2, 1, 0, 0, 0, 0), (18, .iload_n 2, 1, 0, 0, 0, 0), (19, .sipush 367, 3, 0, 0, 0, 0), (22, .if_icmp .ge 27, 3, 0, 0, 0, 0), (25, .aload_n 0, 1, 0, 0, 0, 0), (26, .getfield 104, 3, 10, 16, 4, 0), (29, .sipush 367, 3, 0, 0, 0, 0)],
  [(32, .iload_n 1, 1, 0, 0, 0, 0), (33, .imul, 1, 0, 0, 0, 0), (34, .iload_n 2, 1, 0, 0, 0, 0), (35, .iadd, 1, 0, 0, 0, 0), (36, .aload_n 0, 1, 0, 0, 0, 0), (37, .getfield 98, 3, 10, 14, 4, 0), (40, .iload_n 2, 1, 0, 0, 0, 0), (41, .iaload, 1, 0, 0, 0, 0), (42, .iastore, 1, 0, 0, 0, 0), (43, .iinc 2 1, 3, 0, 0, 0, 0), (46, .goto (-28), 3, 0, 0, 0, 0)],
  [(49, .iconst 0, 1, 0, 0, 0, 0), (50, .istore_n 2, 1, 0, 0, 0, 0), (51, .iload_n 2, 1, 0, 0, 0, 0), (52, .bipush 25, 2, 0, 0, 0, 0), (54, .if_icmp .ge 26, 3, 0, 0, 0, 0), (57, .aload_n 0, 1, 0, 0, 0, 0), (58, .getfield 120, 3, 10, 21, 4, 0), (61, .bipush 25, 2, 0, 0, 0, 0), (63, .iload_n 1, 1, 0, 0, 0, 0)],
  [(64, .imul, 1, 0, 0, 0, 0), (65, .iload_n 2, 1, 0, 0, 0, 0), (66, .iadd, 1, 0, 0, 0, 0), (67, .aload_n 0, 1, 0, 0, 0, 0), (68, .getfield 113, 3, 10, 19, 4, 0), (71, .iload_n 2, 1, 0, 0, 0, 0), (72, .laload, 1, 0, 0, 0, 0), (73, .lastore, 1, 0, 0, 0, 0), (74, .iinc 2 1, 3, 0, 0, 0, 0), (77, .goto (-26), 3, 0, 0, 0, 0)],
  [(80, .aload_n 0, 1, 0, 0, 0, 0), (81, .getfield 123, 3, 10, 22, 4, 0), (84, .iload_n 1, 1, 0, 0, 0, 0), (85, .iconst 1, 1, 0, 0, 0, 0), (86, .bastore, 1, 0, 0, 0, 0), (87, .iconst 1, 1, 0, 0, 0, 0), (88, .ireturn, 1, 0, 0, 0, 0)]]
/-- LostKeysModel.image(I)Z -/
def rx_m172 : rx_Md := (yX10_image, cX10_image, 3, (some .boolean), 2, 1, 0, 0, rx_t172)
def rx_t173 : List (List rx_E) := [
  [(0, .iload_n 1, 1, 0, 0, 0, 0), (1, .iconst 0, 1, 0, 0, 0, 0), (2, .aload_n 0, 1, 0, 0, 0, 0), (3, .getfield 98, 3, 10, 14, 4, 0), (6, .iconst 4, 1, 0, 0, 0, 0), (7, .iaload, 1, 0, 0, 0, 0), (8, .iconst 1, 1, 0, 0, 0, 0), (9, .isub, 1, 0, 0, 0, 0), (10, .invokestatic 75, 3, 177, 3, 0, 0), (13, .ifCond .eq 23, 3, 0, 0, 0, 0)],
  [(16, .iload_n 2, 1, 0, 0, 0, 0), (17, .iconst 0, 1, 0, 0, 0, 0), (18, .aload_n 0, 1, 0, 0, 0, 0), (19, .getfield 98, 3, 10, 14, 4, 0), (22, .iconst 5, 1, 0, 0, 0, 0), (23, .iaload, 1, 0, 0, 0, 0), (24, .iconst 1, 1, 0, 0, 0, 0), (25, .isub, 1, 0, 0, 0, 0), (26, .invokestatic 75, 3, 177, 3, 0, 0), (29, .ifCond .eq 7, 3, 0, 0, 0, 0)],
  [(32, .iconst 1, 1, 0, 0, 0, 0), (33, .goto 4, 3, 0, 0, 0, 0), (36, .iconst 0, 1, 0, 0, 0, 0), (37, .ireturn, 1, 0, 0, 0, 0)]]
/-- LostKeysModel.isCell(II)Z -/
def rx_m173 : rx_Md := (yX10_isCell, cX10_isCell, 3, (some .boolean), 3, 1, 0, 0, rx_t173)
def rx_t174 : List (List rx_E) := [
  [(0, .iload_n 0, 1, 0, 0, 0, 0), (1, .bipush 48, 2, 0, 0, 0, 0), (3, .if_icmp .lt 13, 3, 0, 0, 0, 0), (6, .iload_n 0, 1, 0, 0, 0, 0), (7, .bipush 57, 2, 0, 0, 0, 0), (9, .if_icmp .gt 7, 3, 0, 0, 0, 0), (12, .iconst 1, 1, 0, 0, 0, 0), (13, .goto 4, 3, 0, 0, 0, 0)],
  [(16, .iconst 0, 1, 0, 0, 0, 0), (17, .ireturn, 1, 0, 0, 0, 0)]]
/-- LostKeysModel.isDigit(I)Z -/
def rx_m174 : rx_Md := (yX10_isDigit, cX10_isDigit, 1, (some .boolean), 1, 0, 0, 0, rx_t174)
def rx_t175 : List (List rx_E) := [
  [(0, .aload_n 0, 1, 0, 0, 0, 0), (1, .getfield 127, 3, 10, 23, 4, 0), (4, .iload_n 1, 1, 0, 0, 0, 0), (5, .baload, 1, 0, 0, 0, 0), (6, .ifCond .eq 9, 3, 0, 0, 0, 0), (9, .aload_n 0, 1, 0, 0, 0, 0), (10, .iconst 3, 1, 0, 0, 0, 0), (11, .invokevirtual 72, 3, 144, 2, 14, 0), (14, .ireturn, 1, 0, 0, 0, 0), (15, .aload_n 0, 1, 0, 0, 0, 0)],
  [(16, .getfield 127, 3, 10, 23, 4, 0), (19, .iload_n 1, 1, 0, 0, 0, 0), (20, .iconst 1, 1, 0, 0, 0, 0), (21, .bastore, 1, 0, 0, 0, 0), (22, .aload_n 0, 1, 0, 0, 0, 0), (23, .invokevirtual 82, 3, 167, 1, 14, 0), (26, .iconst 1, 1, 0, 0, 0, 0), (27, .ireturn, 1, 0, 0, 0, 0)]]
/-- LostKeysModel.isFresh(I)Z -/
def rx_m175 : rx_Md := (yX10_isFresh, cX10_isFresh, 2, (some .boolean), 2, 1, 0, 0, rx_t175)
def rx_t176 : List (List rx_E) := [
  [(0, .aload_n 0, 1, 0, 0, 0, 0), (1, .getfield 98, 3, 10, 14, 4, 0), (4, .bipush 19, 2, 0, 0, 0, 0), (6, .iload_n 2, 1, 0, 0, 0, 0), (7, .iadd, 1, 0, 0, 0, 0), (8, .iaload, 1, 0, 0, 0, 0), (9, .aload_n 0, 1, 0, 0, 0, 0), (10, .getfield 98, 3, 10, 14, 4, 0), (13, .bipush 67, 2, 0, 0, 0, 0), (15, .iload_n 1, 1, 0, 0, 0, 0)],
  [(16, .iadd, 1, 0, 0, 0, 0), (17, .iaload, 1, 0, 0, 0, 0), (18, .if_icmp .ne 28, 3, 0, 0, 0, 0), (21, .aload_n 0, 1, 0, 0, 0, 0), (22, .getfield 98, 3, 10, 14, 4, 0), (25, .bipush 25, 2, 0, 0, 0, 0), (27, .iload_n 2, 1, 0, 0, 0, 0), (28, .iadd, 1, 0, 0, 0, 0), (29, .iaload, 1, 0, 0, 0, 0), (30, .aload_n 0, 1, 0, 0, 0, 0), (31, .getfield 98, 3, 10, 14, 4, 0)],
  [(34, .bipush 72, 2, 0, 0, 0, 0), (36, .iload_n 1, 1, 0, 0, 0, 0), (37, .iadd, 1, 0, 0, 0, 0), (38, .iaload, 1, 0, 0, 0, 0), (39, .if_icmp .ne 7, 3, 0, 0, 0, 0), (42, .iconst 1, 1, 0, 0, 0, 0), (43, .goto 4, 3, 0, 0, 0, 0), (46, .iconst 0, 1, 0, 0, 0, 0), (47, .ireturn, 1, 0, 0, 0, 0)]]
/-- LostKeysModel.isHis(II)Z -/
def rx_m176 : rx_Md := (yX10_isHis, cX10_isHis, 3, (some .boolean), 3, 1, 0, 0, rx_t176)
def rx_t177 : List (List rx_E) := [
  [(0, .iload_n 0, 1, 0, 0, 0, 0), (1, .iload_n 1, 1, 0, 0, 0, 0), (2, .if_icmp .lt 12, 3, 0, 0, 0, 0), (5, .iload_n 0, 1, 0, 0, 0, 0), (6, .iload_n 2, 1, 0, 0, 0, 0), (7, .if_icmp .gt 7, 3, 0, 0, 0, 0), (10, .iconst 1, 1, 0, 0, 0, 0), (11, .goto 4, 3, 0, 0, 0, 0), (14, .iconst 0, 1, 0, 0, 0, 0), (15, .ireturn, 1, 0, 0, 0, 0)]]
/-- LostKeysModel.isIn(III)Z -/
def rx_m177 : rx_Md := (yX10_isIn, cX10_isIn, 3, (some .boolean), 3, 0, 0, 0, rx_t177)
def rx_t178 : List (List rx_E) := [
  [(0, .iload_n 1, 1, 0, 0, 0, 0), (1, .iconst 0, 1, 0, 0, 0, 0), (2, .aload_n 0, 1, 0, 0, 0, 0), (3, .getfield 98, 3, 10, 14, 4, 0), (6, .iconst 3, 1, 0, 0, 0, 0), (7, .iaload, 1, 0, 0, 0, 0), (8, .iconst 1, 1, 0, 0, 0, 0), (9, .isub, 1, 0, 0, 0, 0), (10, .invokestatic 75, 3, 177, 3, 0, 0), (13, .ireturn, 1, 0, 0, 0, 0)]]
/-- LostKeysModel.isKey(I)Z -/
def rx_m178 : rx_Md := (yX10_isKey, cX10_isKey, 2, (some .boolean), 2, 1, 0, 0, rx_t178)
def rx_t179 : List (List rx_E) := [
  [(0, .iload_n 0, 1, 0, 0, 0, 0), (1, .bipush 97, 2, 0, 0, 0, 0), (3, .if_icmp .lt 13, 3, 0, 0, 0, 0), (6, .iload_n 0, 1, 0, 0, 0, 0), (7, .bipush 122, 2, 0, 0, 0, 0), (9, .if_icmp .gt 7, 3, 0, 0, 0, 0), (12, .iconst 1, 1, 0, 0, 0, 0), (13, .goto 4, 3, 0, 0, 0, 0)],
  [(16, .iconst 0, 1, 0, 0, 0, 0), (17, .ireturn, 1, 0, 0, 0, 0)]]
/-- LostKeysModel.isLetter(I)Z -/
def rx_m179 : rx_Md := (yX10_isLetter, cX10_isLetter, 1, (some .boolean), 1, 0, 0, 0, rx_t179)
def rx_t180 : List (List rx_E) := [
  [(0, .iload_n 1, 1, 0, 0, 0, 0), (1, .iconst 0, 1, 0, 0, 0, 0), (2, .aload_n 0, 1, 0, 0, 0, 0), (3, .getfield 98, 3, 10, 14, 4, 0), (6, .iconst 1, 1, 0, 0, 0, 0), (7, .iaload, 1, 0, 0, 0, 0), (8, .iconst 1, 1, 0, 0, 0, 0), (9, .isub, 1, 0, 0, 0, 0), (10, .invokestatic 75, 3, 177, 3, 0, 0), (13, .ireturn, 1, 0, 0, 0, 0)]]
/-- LostKeysModel.isLock(I)Z -/
def rx_m180 : rx_Md := (yX10_isLock, cX10_isLock, 2, (some .boolean), 2, 1, 0, 0, rx_t180)
def rx_t181 : List (List rx_E) := [
  [(0, .iload_n 1, 1, 0, 0, 0, 0), (1, .iconst 0, 1, 0, 0, 0, 0), (2, .aload_n 0, 1, 0, 0, 0, 0), (3, .getfield 98, 3, 10, 14, 4, 0), (6, .iconst 2, 1, 0, 0, 0, 0), (7, .iaload, 1, 0, 0, 0, 0), (8, .iconst 1, 1, 0, 0, 0, 0), (9, .isub, 1, 0, 0, 0, 0), (10, .invokestatic 75, 3, 177, 3, 0, 0), (13, .ireturn, 1, 0, 0, 0, 0)]]
/-- LostKeysModel.isMan(I)Z -/
def rx_m181 : rx_Md := (yX10_isMan, cX10_isMan, 2, (some .boolean), 2, 1, 0, 0, rx_t181)
def rx_t182 : List (List rx_E) := [
  [(0, .iload_n 1, 1, 0, 0, 0, 0), (1, .bipush 16, 2, 0, 0, 0, 0), (3, .if_icmp .eq 9, 3, 0, 0, 0, 0), (6, .iload_n 1, 1, 0, 0, 0, 0), (7, .bipush 17, 2, 0, 0, 0, 0), (9, .if_icmp .ne 7, 3, 0, 0, 0, 0), (12, .iconst 1, 1, 0, 0, 0, 0), (13, .goto 4, 3, 0, 0, 0, 0)],
  [(16, .iconst 0, 1, 0, 0, 0, 0), (17, .ireturn, 1, 0, 0, 0, 0)]]
/-- LostKeysModel.isMen(I)Z -/
def rx_m182 : rx_Md := (yX10_isMen, cX10_isMen, 2, (some .boolean), 2, 1, 0, 0, rx_t182)
def rx_t183 : List (List rx_E) := [
  [(0, .aload_n 0, 1, 0, 0, 0, 0), (1, .getfield 30, 3, 10, 7, 0, 0), (4, .iconst 2, 1, 0, 0, 0, 0), (5, .if_icmp .eq 5, 3, 0, 0, 0, 0), (8, .iconst 0, 1, 0, 0, 0, 0), (9, .ireturn, 1, 0, 0, 0, 0), (10, .iconst 0, 1, 0, 0, 0, 0), (11, .istore_n 1, 1, 0, 0, 0, 0), (12, .iload_n 1, 1, 0, 0, 0, 0), (13, .bipush 23, 2, 0, 0, 0, 0), (15, .if_icmp .gt 23, 3, 0, 0, 0, 0)],
  [(18, .aload_n 0, 1, 0, 0, 0, 0), (19, .getfield 43, 3, 10, 12, 3, 0), (22, .iload_n 1, 1, 0, 0, 0, 0), (23, .invokestatic 62, 3, 268, 1, 0, 0), (26, .lcmp, 1, 0, 0, 0, 0), (27, .ifCond .ne 5, 3, 0, 0, 0, 0), (30, .iconst 0, 1, 0, 0, 0, 0), (31, .ireturn, 1, 0, 0, 0, 0)],
  [(32, .iinc 1 1, 3, 0, 0, 0, 0), (35, .goto (-23), 3, 0, 0, 0, 0), (38, .iconst 1, 1, 0, 0, 0, 0), (39, .ireturn, 1, 0, 0, 0, 0)]]
/-- LostKeysModel.isName()Z -/
def rx_m183 : rx_Md := (yX10_isName, cX10_isName, 2, (some .boolean), 1, 1, 0, 0, rx_t183)
def rx_t184 : List (List rx_E) := [
  [(0, .aload_n 0, 1, 0, 0, 0, 0), (1, .invokevirtual 179, 3, 183, 1, 14, 0), (4, .ifCond .ne 9, 3, 0, 0, 0, 0), (7, .aload_n 0, 1, 0, 0, 0, 0), (8, .iconst 1, 1, 0, 0, 0, 0), (9, .invokevirtual 72, 3, 144, 2, 14, 0), (12, .ireturn, 1, 0, 0, 0, 0), (13, .aload_n 0, 1, 0, 0, 0, 0), (14, .aload_n 0, 1, 0, 0, 0, 0), (15, .getfield 117, 3, 10, 20, 4, 0)],
  [(18, .iload_n 1, 1, 0, 0, 0, 0), (19, .iload_n 2, 1, 0, 0, 0, 0), (20, .aload_n 0, 1, 0, 0, 0, 0), (21, .getfield 43, 3, 10, 12, 3, 0), (24, .invokestatic 175, 3, 162, 4, 0, 0), (27, .putfield 79, 3, 10, 13, 0, 0), (30, .aload_n 0, 1, 0, 0, 0, 0), (31, .getfield 79, 3, 10, 13, 0, 0)],
  [(34, .iconst (-1), 1, 0, 0, 0, 0), (35, .if_icmp .ne 11, 3, 0, 0, 0, 0), (38, .aload_n 0, 1, 0, 0, 0, 0), (39, .iconst 3, 1, 0, 0, 0, 0), (40, .invokevirtual 72, 3, 144, 2, 14, 0), (43, .ifCond .eq 7, 3, 0, 0, 0, 0), (46, .iconst 1, 1, 0, 0, 0, 0), (47, .goto 4, 3, 0, 0, 0, 0)],
  [(50, .iconst 0, 1, 0, 0, 0, 0), (51, .ireturn, 1, 0, 0, 0, 0)]]
/-- LostKeysModel.isOne(II)Z -/
def rx_m184 : rx_Md := (yX10_isOne, cX10_isOne, 3, (some .boolean), 3, 1, 0, 0, rx_t184)
def rx_t185 : List (List rx_E) := [
  [(0, .iload_n 1, 1, 0, 0, 0, 0), (1, .iconst 0, 1, 0, 0, 0, 0), (2, .aload_n 0, 1, 0, 0, 0, 0), (3, .getfield 98, 3, 10, 14, 4, 0), (6, .iconst 0, 1, 0, 0, 0, 0), (7, .iaload, 1, 0, 0, 0, 0), (8, .iconst 1, 1, 0, 0, 0, 0), (9, .isub, 1, 0, 0, 0, 0), (10, .invokestatic 75, 3, 177, 3, 0, 0), (13, .ireturn, 1, 0, 0, 0, 0)]]
/-- LostKeysModel.isRoom(I)Z -/
def rx_m185 : rx_Md := (yX10_isRoom, cX10_isRoom, 2, (some .boolean), 2, 1, 0, 0, rx_t185)
def rx_t186 : List (List rx_E) := [
  [(0, .aload_n 0, 1, 0, 0, 0, 0), (1, .getfield 30, 3, 10, 7, 0, 0), (4, .iconst 4, 1, 0, 0, 0, 0), (5, .if_icmp .ne 15, 3, 0, 0, 0, 0), (8, .aload_n 0, 1, 0, 0, 0, 0), (9, .getfield 40, 3, 10, 9, 0, 0), (12, .iload_n 1, 1, 0, 0, 0, 0), (13, .if_icmp .ne 7, 3, 0, 0, 0, 0)],
  [(16, .iconst 1, 1, 0, 0, 0, 0), (17, .goto 4, 3, 0, 0, 0, 0), (20, .iconst 0, 1, 0, 0, 0, 0), (21, .ireturn, 1, 0, 0, 0, 0)]]
/-- LostKeysModel.isSign(I)Z -/
def rx_m186 : rx_Md := (yX10_isSign, cX10_isSign, 2, (some .boolean), 2, 1, 0, 0, rx_t186)
def rx_t187 : List (List rx_E) := [
  [(0, .aload_n 0, 1, 0, 0, 0, 0), (1, .getfield 117, 3, 10, 20, 4, 0), (4, .iconst 0, 1, 0, 0, 0, 0), (5, .aload_n 0, 1, 0, 0, 0, 0), (6, .getfield 101, 3, 10, 15, 4, 0), (9, .iconst 0, 1, 0, 0, 0, 0), (10, .iaload, 1, 0, 0, 0, 0), (11, .aload_n 0, 1, 0, 0, 0, 0), (12, .getfield 43, 3, 10, 12, 3, 0), (15, .invokestatic 175, 3, 162, 4, 0, 0)],
  [(18, .iconst (-1), 1, 0, 0, 0, 0), (19, .if_icmp .ne 72, 3, 0, 0, 0, 0), (22, .aload_n 0, 1, 0, 0, 0, 0), (23, .getfield 117, 3, 10, 20, 4, 0), (26, .bipush 6, 2, 0, 0, 0, 0), (28, .aload_n 0, 1, 0, 0, 0, 0), (29, .getfield 101, 3, 10, 15, 4, 0)],
  [(32, .iconst 1, 1, 0, 0, 0, 0), (33, .iaload, 1, 0, 0, 0, 0), (34, .aload_n 0, 1, 0, 0, 0, 0), (35, .getfield 43, 3, 10, 12, 3, 0), (38, .invokestatic 175, 3, 162, 4, 0, 0), (41, .iconst (-1), 1, 0, 0, 0, 0), (42, .if_icmp .ne 49, 3, 0, 0, 0, 0), (45, .aload_n 0, 1, 0, 0, 0, 0), (46, .getfield 117, 3, 10, 20, 4, 0)],
  [(49, .bipush 12, 2, 0, 0, 0, 0), (51, .aload_n 0, 1, 0, 0, 0, 0), (52, .getfield 101, 3, 10, 15, 4, 0), (55, .iconst 2, 1, 0, 0, 0, 0), (56, .iaload, 1, 0, 0, 0, 0), (57, .aload_n 0, 1, 0, 0, 0, 0), (58, .getfield 43, 3, 10, 12, 3, 0), (61, .invokestatic 175, 3, 162, 4, 0, 0)],
  [(64, .iconst (-1), 1, 0, 0, 0, 0), (65, .if_icmp .ne 26, 3, 0, 0, 0, 0), (68, .aload_n 0, 1, 0, 0, 0, 0), (69, .getfield 117, 3, 10, 20, 4, 0), (72, .bipush 17, 2, 0, 0, 0, 0), (74, .aload_n 0, 1, 0, 0, 0, 0), (75, .getfield 101, 3, 10, 15, 4, 0), (78, .iconst 3, 1, 0, 0, 0, 0), (79, .iaload, 1, 0, 0, 0, 0)],
  [(80, .aload_n 0, 1, 0, 0, 0, 0), (81, .getfield 43, 3, 10, 12, 3, 0), (84, .invokestatic 175, 3, 162, 4, 0, 0), (87, .iconst (-1), 1, 0, 0, 0, 0), (88, .if_icmp .eq 7, 3, 0, 0, 0, 0), (91, .iconst 1, 1, 0, 0, 0, 0), (92, .goto 4, 3, 0, 0, 0, 0), (95, .iconst 0, 1, 0, 0, 0, 0)],
  [(96, .ireturn, 1, 0, 0, 0, 0)]]
/-- LostKeysModel.isTaken()Z -/
def rx_m187 : rx_Md := (yX10_isTaken, cX10_isTaken, 1, (some .boolean), 1, 1, 0, 0, rx_t187)
def rx_t188 : List (List rx_E) := [
  [(0, .aload_n 0, 1, 0, 0, 0, 0), (1, .getfield 30, 3, 10, 7, 0, 0), (4, .iconst 2, 1, 0, 0, 0, 0), (5, .if_icmp .ne 19, 3, 0, 0, 0, 0), (8, .aload_n 0, 1, 0, 0, 0, 0), (9, .getfield 43, 3, 10, 12, 3, 0), (12, .iload_n 1, 1, 0, 0, 0, 0), (13, .invokestatic 62, 3, 268, 1, 0, 0)],
  [(16, .lcmp, 1, 0, 0, 0, 0), (17, .ifCond .ne 7, 3, 0, 0, 0, 0), (20, .iconst 1, 1, 0, 0, 0, 0), (21, .goto 4, 3, 0, 0, 0, 0), (24, .iconst 0, 1, 0, 0, 0, 0), (25, .ireturn, 1, 0, 0, 0, 0)]]
/-- LostKeysModel.isWord(I)Z -/
def rx_m188 : rx_Md := (yX10_isWord, cX10_isWord, 2, (some .boolean), 2, 1, 0, 0, rx_t188)
def rx_t189 : List (List rx_E) := [
  [(0, .iload_n 2, 1, 0, 0, 0, 0), (1, .ifCond .eq 13, 3, 0, 0, 0, 0), (4, .aload_n 0, 1, 0, 0, 0, 0), (5, .getfield 163, 3, 10, 41, 4, 0), (8, .iload_n 1, 1, 0, 0, 0, 0), (9, .aload_n 0, 1, 0, 0, 0, 0), (10, .getfield 79, 3, 10, 13, 0, 0), (13, .iastore, 1, 0, 0, 0, 0), (14, .iload_n 2, 1, 0, 0, 0, 0), (15, .ireturn, 1, 0, 0, 0, 0)]]
/-- LostKeysModel.keep(IZ)Z -/
def rx_m189 : rx_Md := (yX10_keep, cX10_keep, 3, (some .boolean), 3, 1, 0, 0, rx_t189)
def rx_t190 : List (List rx_E) := [
  [(0, .aload_n 0, 1, 0, 0, 0, 0), (1, .iconst 0, 1, 0, 0, 0, 0), (2, .putfield 1, 3, 10, 0, 0, 0), (5, .aload_n 0, 1, 0, 0, 0, 0), (6, .iload_n 1, 1, 0, 0, 0, 0), (7, .invokevirtual 260, 3, 178, 2, 14, 0), (10, .ifCond .ne 8, 3, 0, 0, 0, 0), (13, .aload_n 0, 1, 0, 0, 0, 0), (14, .invokevirtual 263, 3, 242, 1, 14, 0)],
  [(17, .ireturn, 1, 0, 0, 0, 0), (18, .iload_n 2, 1, 0, 0, 0, 0), (19, .tableswitch 113 0 7 #[45, 55, 65, 71, 77, 87, 97, 107], 45, 0, 0, 0, 0)],
  [],
  [],
  [(64, .aload_n 0, 1, 0, 0, 0, 0), (65, .getfield 98, 3, 10, 14, 4, 0), (68, .bipush 48, 2, 0, 0, 0, 0), (70, .iload_n 1, 1, 0, 0, 0, 0), (71, .iadd, 1, 0, 0, 0, 0), (72, .iaload, 1, 0, 0, 0, 0), (73, .ireturn, 1, 0, 0, 0, 0), (74, .aload_n 0, 1, 0, 0, 0, 0), (75, .getfield 98, 3, 10, 14, 4, 0), (78, .bipush 77, 2, 0, 0, 0, 0)],
  [(80, .iload_n 1, 1, 0, 0, 0, 0), (81, .iadd, 1, 0, 0, 0, 0), (82, .iaload, 1, 0, 0, 0, 0), (83, .ireturn, 1, 0, 0, 0, 0), (84, .aload_n 0, 1, 0, 0, 0, 0), (85, .iload_n 1, 1, 0, 0, 0, 0), (86, .invokevirtual 266, 3, 272, 2, 14, 0), (89, .ireturn, 1, 0, 0, 0, 0), (90, .aload_n 0, 1, 0, 0, 0, 0), (91, .iload_n 1, 1, 0, 0, 0, 0), (92, .invokevirtual 269, 3, 273, 2, 14, 0), (95, .ireturn, 1, 0, 0, 0, 0)],
  [(96, .aload_n 0, 1, 0, 0, 0, 0), (97, .getfield 98, 3, 10, 14, 4, 0), (100, .bipush 101, 2, 0, 0, 0, 0), (102, .iload_n 1, 1, 0, 0, 0, 0), (103, .iadd, 1, 0, 0, 0, 0), (104, .iaload, 1, 0, 0, 0, 0), (105, .ireturn, 1, 0, 0, 0, 0), (106, .aload_n 0, 1, 0, 0, 0, 0), (107, .getfield 98, 3, 10, 14, 4, 0), (110, .bipush 109, 2, 0, 0, 0, 0)],
  [(112, .iload_n 1, 1, 0, 0, 0, 0), (113, .iadd, 1, 0, 0, 0, 0), (114, .iaload, 1, 0, 0, 0, 0), (115, .ireturn, 1, 0, 0, 0, 0), (116, .aload_n 0, 1, 0, 0, 0, 0), (117, .getfield 98, 3, 10, 14, 4, 0), (120, .bipush 117, 2, 0, 0, 0, 0), (122, .iload_n 1, 1, 0, 0, 0, 0), (123, .iadd, 1, 0, 0, 0, 0), (124, .iaload, 1, 0, 0, 0, 0), (125, .ireturn, 1, 0, 0, 0, 0), (126, .aload_n 0, 1, 0, 0, 0, 0), (127, .iload_n 1, 1, 0, 0, 0, 0)],
  [(128, .invokevirtual 272, 3, 164, 2, 14, 0), (131, .ireturn, 1, 0, 0, 0, 0), (132, .aload_n 0, 1, 0, 0, 0, 0), (133, .invokevirtual 263, 3, 242, 1, 14, 0), (136, .ireturn, 1, 0, 0, 0, 0)]]
/-- LostKeysModel.key(II)I -/
def rx_m190 : rx_Md := (yX10_key, cX10_key, 3, (some .int), 3, 1, 0, 0, rx_t190)
def rx_t191 : List (List rx_E) := [
  [(0, .iconst 0, 1, 0, 0, 0, 0), (1, .istore_n 1, 1, 0, 0, 0, 0), (2, .iload_n 1, 1, 0, 0, 0, 0), (3, .bipush 61, 2, 0, 0, 0, 0), (5, .if_icmp .ge 24, 3, 0, 0, 0, 0), (8, .aload_n 0, 1, 0, 0, 0, 0), (9, .getfield 110, 3, 10, 18, 4, 0), (12, .iload_n 1, 1, 0, 0, 0, 0), (13, .aload_n 0, 1, 0, 0, 0, 0), (14, .getfield 98, 3, 10, 14, 4, 0)],
  [(17, .bipush 64, 2, 0, 0, 0, 0), (19, .iload_n 1, 1, 0, 0, 0, 0), (20, .iadd, 1, 0, 0, 0, 0), (21, .iaload, 1, 0, 0, 0, 0), (22, .iastore, 1, 0, 0, 0, 0), (23, .iinc 1 1, 3, 0, 0, 0, 0), (26, .goto (-24), 3, 0, 0, 0, 0), (29, .return_, 1, 0, 0, 0, 0)]]
/-- LostKeysModel.layAside()V -/
def rx_m191 : rx_Md := (yX10_layAside, cX10_layAside, 2, none, 1, 1, 0, 0, rx_t191)
def rx_t192 : List (List rx_E) := [
  [(0, .iconst 0, 1, 0, 0, 0, 0), (1, .istore_n 3, 1, 0, 0, 0, 0), (2, .iload_n 3, 1, 0, 0, 0, 0), (3, .bipush 6, 2, 0, 0, 0, 0), (5, .if_icmp .ge 27, 3, 0, 0, 0, 0), (8, .aload_n 0, 1, 0, 0, 0, 0), (9, .getfield 145, 3, 10, 32, 4, 0), (12, .iload_n 3, 1, 0, 0, 0, 0), (13, .iload_n 3, 1, 0, 0, 0, 0), (14, .iload_n 1, 1, 0, 0, 0, 0), (15, .if_icmp .ne 7, 3, 0, 0, 0, 0)],
  [(18, .iconst 0, 1, 0, 0, 0, 0), (19, .goto 6, 3, 0, 0, 0, 0), (22, .sipush 1000, 3, 0, 0, 0, 0), (25, .iastore, 1, 0, 0, 0, 0), (26, .iinc 3 1, 3, 0, 0, 0, 0), (29, .goto (-27), 3, 0, 0, 0, 0)],
  [(32, .iconst 0, 1, 0, 0, 0, 0), (33, .istore_n 3, 1, 0, 0, 0, 0), (34, .iload_n 3, 1, 0, 0, 0, 0), (35, .bipush 6, 2, 0, 0, 0, 0), (37, .if_icmp .ge 117, 3, 0, 0, 0, 0), (40, .iconst 0, 1, 0, 0, 0, 0), (41, .istore 4, 2, 0, 0, 0, 0), (43, .iload 4, 2, 0, 0, 0, 0), (45, .aload_n 0, 1, 0, 0, 0, 0), (46, .getfield 98, 3, 10, 14, 4, 0)],
  [(49, .iconst 1, 1, 0, 0, 0, 0), (50, .iaload, 1, 0, 0, 0, 0), (51, .if_icmp .ge 97, 3, 0, 0, 0, 0), (54, .iload_n 2, 1, 0, 0, 0, 0), (55, .iload 4, 2, 0, 0, 0, 0), (57, .invokestatic 257, 3, 170, 2, 0, 0), (60, .ifCond .ne 6, 3, 0, 0, 0, 0), (63, .goto 79, 3, 0, 0, 0, 0)],
  [(66, .aload_n 0, 1, 0, 0, 0, 0), (67, .getfield 98, 3, 10, 14, 4, 0), (70, .bipush 7, 2, 0, 0, 0, 0), (72, .iload 4, 2, 0, 0, 0, 0), (74, .iadd, 1, 0, 0, 0, 0), (75, .iaload, 1, 0, 0, 0, 0), (76, .istore 5, 2, 0, 0, 0, 0), (78, .aload_n 0, 1, 0, 0, 0, 0), (79, .getfield 98, 3, 10, 14, 4, 0)],
  [(82, .bipush 13, 2, 0, 0, 0, 0), (84, .iload 4, 2, 0, 0, 0, 0), (86, .iadd, 1, 0, 0, 0, 0), (87, .iaload, 1, 0, 0, 0, 0), (88, .istore 6, 2, 0, 0, 0, 0), (90, .aload_n 0, 1, 0, 0, 0, 0), (91, .getfield 145, 3, 10, 32, 4, 0), (94, .iload 5, 2, 0, 0, 0, 0)],
  [(96, .aload_n 0, 1, 0, 0, 0, 0), (97, .getfield 145, 3, 10, 32, 4, 0), (100, .iload 5, 2, 0, 0, 0, 0), (102, .iaload, 1, 0, 0, 0, 0), (103, .aload_n 0, 1, 0, 0, 0, 0), (104, .getfield 145, 3, 10, 32, 4, 0), (107, .iload 6, 2, 0, 0, 0, 0), (109, .iaload, 1, 0, 0, 0, 0), (110, .iconst 1, 1, 0, 0, 0, 0), (111, .iadd, 1, 0, 0, 0, 0)],
  [(112, .invokestatic 316, 3, 193, 2, 0, 0), (115, .iastore, 1, 0, 0, 0, 0), (116, .aload_n 0, 1, 0, 0, 0, 0), (117, .getfield 145, 3, 10, 32, 4, 0), (120, .iload 6, 2, 0, 0, 0, 0), (122, .aload_n 0, 1, 0, 0, 0, 0), (123, .getfield 145, 3, 10, 32, 4, 0), (126, .iload 6, 2, 0, 0, 0, 0)],
  [(128, .iaload, 1, 0, 0, 0, 0), (129, .aload_n 0, 1, 0, 0, 0, 0), (130, .getfield 145, 3, 10, 32, 4, 0), (133, .iload 5, 2, 0, 0, 0, 0), (135, .iaload, 1, 0, 0, 0, 0), (136, .iconst 1, 1, 0, 0, 0, 0), (137, .iadd, 1, 0, 0, 0, 0), (138, .invokestatic 316, 3, 193, 2, 0, 0), (141, .iastore, 1, 0, 0, 0, 0), (142, .iinc 4 1, 3, 0, 0, 0, 0)],
  [(145, .goto (-102), 3, 0, 0, 0, 0), (148, .iinc 3 1, 3, 0, 0, 0, 0), (151, .goto (-117), 3, 0, 0, 0, 0), (154, .return_, 1, 0, 0, 0, 0)]]
/-- LostKeysModel.layFar(II)V -/
def rx_m192 : rx_Md := (yX10_layFar, cX10_layFar, 7, none, 3, 1, 0, 0, rx_t192)
def rx_t193 : List (List rx_E) := [
  [(0, .iload_n 0, 1, 0, 0, 0, 0), (1, .iload_n 1, 1, 0, 0, 0, 0), (2, .if_icmp .ge 7, 3, 0, 0, 0, 0), (5, .iload_n 0, 1, 0, 0, 0, 0), (6, .goto 4, 3, 0, 0, 0, 0), (9, .iload_n 1, 1, 0, 0, 0, 0), (10, .ireturn, 1, 0, 0, 0, 0)]]
/-- LostKeysModel.least(II)I -/
def rx_m193 : rx_Md := (yX10_least, cX10_least, 2, (some .int), 2, 0, 0, 0, rx_t193)
def rx_t194 : List (List rx_E) := [
  [(0, .aload_n 0, 1, 0, 0, 0, 0), (1, .getfield 98, 3, 10, 14, 4, 0), (4, .bipush 77, 2, 0, 0, 0, 0), (6, .iload_n 1, 1, 0, 0, 0, 0), (7, .iadd, 1, 0, 0, 0, 0), (8, .iaload, 1, 0, 0, 0, 0), (9, .iconst (-1), 1, 0, 0, 0, 0), (10, .if_icmp .ne 7, 3, 0, 0, 0, 0), (13, .iconst 1, 1, 0, 0, 0, 0), (14, .goto 4, 3, 0, 0, 0, 0)],
  [(17, .iconst 0, 1, 0, 0, 0, 0), (18, .ireturn, 1, 0, 0, 0, 0)]]
/-- LostKeysModel.lies(I)Z -/
def rx_m194 : rx_Md := (yX10_lies, cX10_lies, 2, (some .boolean), 2, 1, 0, 0, rx_t194)
def rx_t195 : List (List rx_E) := [
  [(0, .iload_n 1, 1, 0, 0, 0, 0), (1, .tableswitch 120 0 2 #[27, 84, 105], 27, 0, 0, 0, 0)],
  [(28, .aload_n 0, 1, 0, 0, 0, 0), (29, .getfield 98, 3, 10, 14, 4, 0)],
  [(32, .bipush 77, 2, 0, 0, 0, 0), (34, .iload_n 3, 1, 0, 0, 0, 0), (35, .iadd, 1, 0, 0, 0, 0), (36, .iconst (-1), 1, 0, 0, 0, 0), (37, .iastore, 1, 0, 0, 0, 0), (38, .aload_n 0, 1, 0, 0, 0, 0), (39, .getfield 98, 3, 10, 14, 4, 0), (42, .bipush 85, 2, 0, 0, 0, 0), (44, .iload_n 3, 1, 0, 0, 0, 0), (45, .iadd, 1, 0, 0, 0, 0), (46, .aload_n 0, 1, 0, 0, 0, 0), (47, .getfield 98, 3, 10, 14, 4, 0)],
  [(50, .bipush 67, 2, 0, 0, 0, 0), (52, .iload_n 2, 1, 0, 0, 0, 0), (53, .iadd, 1, 0, 0, 0, 0), (54, .iaload, 1, 0, 0, 0, 0), (55, .iastore, 1, 0, 0, 0, 0), (56, .aload_n 0, 1, 0, 0, 0, 0), (57, .getfield 98, 3, 10, 14, 4, 0), (60, .bipush 93, 2, 0, 0, 0, 0), (62, .iload_n 3, 1, 0, 0, 0, 0), (63, .iadd, 1, 0, 0, 0, 0)],
  [(64, .aload_n 0, 1, 0, 0, 0, 0), (65, .getfield 98, 3, 10, 14, 4, 0), (68, .bipush 72, 2, 0, 0, 0, 0), (70, .iload_n 2, 1, 0, 0, 0, 0), (71, .iadd, 1, 0, 0, 0, 0), (72, .iaload, 1, 0, 0, 0, 0), (73, .iastore, 1, 0, 0, 0, 0), (74, .aload_n 0, 1, 0, 0, 0, 0), (75, .getfield 98, 3, 10, 14, 4, 0), (78, .bipush 109, 2, 0, 0, 0, 0)],
  [(80, .iload_n 3, 1, 0, 0, 0, 0), (81, .iadd, 1, 0, 0, 0, 0), (82, .iconst 0, 1, 0, 0, 0, 0), (83, .iastore, 1, 0, 0, 0, 0), (84, .return_, 1, 0, 0, 0, 0), (85, .aload_n 0, 1, 0, 0, 0, 0), (86, .getfield 98, 3, 10, 14, 4, 0), (89, .bipush 77, 2, 0, 0, 0, 0), (91, .iload_n 3, 1, 0, 0, 0, 0), (92, .iadd, 1, 0, 0, 0, 0), (93, .iload_n 2, 1, 0, 0, 0, 0), (94, .iastore, 1, 0, 0, 0, 0), (95, .aload_n 0, 1, 0, 0, 0, 0)],
  [(96, .getfield 98, 3, 10, 14, 4, 0), (99, .bipush 109, 2, 0, 0, 0, 0), (101, .iload_n 3, 1, 0, 0, 0, 0), (102, .iadd, 1, 0, 0, 0, 0), (103, .iconst 0, 1, 0, 0, 0, 0), (104, .iastore, 1, 0, 0, 0, 0), (105, .return_, 1, 0, 0, 0, 0), (106, .aload_n 0, 1, 0, 0, 0, 0), (107, .getfield 98, 3, 10, 14, 4, 0), (110, .bipush 65, 2, 0, 0, 0, 0)],
  [(112, .dup2, 1, 0, 0, 0, 0), (113, .iaload, 1, 0, 0, 0, 0), (114, .iconst 1, 1, 0, 0, 0, 0), (115, .iload 4, 2, 0, 0, 0, 0), (117, .ishl, 1, 0, 0, 0, 0), (118, .ixor, 1, 0, 0, 0, 0), (119, .iastore, 1, 0, 0, 0, 0), (120, .return_, 1, 0, 0, 0, 0), (121, .aload_n 0, 1, 0, 0, 0, 0), (122, .getfield 98, 3, 10, 14, 4, 0), (125, .bipush 67, 2, 0, 0, 0, 0), (127, .iload_n 2, 1, 0, 0, 0, 0)],
  [(128, .iadd, 1, 0, 0, 0, 0), (129, .iload_n 3, 1, 0, 0, 0, 0), (130, .iastore, 1, 0, 0, 0, 0), (131, .aload_n 0, 1, 0, 0, 0, 0), (132, .getfield 98, 3, 10, 14, 4, 0), (135, .bipush 72, 2, 0, 0, 0, 0), (137, .iload_n 2, 1, 0, 0, 0, 0), (138, .iadd, 1, 0, 0, 0, 0), (139, .iload 4, 2, 0, 0, 0, 0), (141, .iastore, 1, 0, 0, 0, 0), (142, .return_, 1, 0, 0, 0, 0)]]
/-- LostKeysModel.live(IIII)V -/
def rx_m195 : rx_Md := (yX10_live, cX10_live, 5, none, 5, 1, 0, 0, rx_t195)
def rx_t196 : List (List rx_E) := [
  [(0, .aload_n 0, 1, 0, 0, 0, 0), (1, .iconst 0, 1, 0, 0, 0, 0), (2, .putfield 1, 3, 10, 0, 0, 0), (5, .aload_n 0, 1, 0, 0, 0, 0), (6, .iload_n 1, 1, 0, 0, 0, 0), (7, .invokevirtual 254, 3, 180, 2, 14, 0), (10, .ifCond .ne 5, 3, 0, 0, 0, 0), (13, .iconst (-1), 1, 0, 0, 0, 0), (14, .ireturn, 1, 0, 0, 0, 0), (15, .iload_n 2, 1, 0, 0, 0, 0)],
  [(16, .tableswitch 110 0 5 #[40, 50, 60, 70, 80, 90], 40, 0, 0, 0, 0)],
  [],
  [(56, .aload_n 0, 1, 0, 0, 0, 0), (57, .getfield 98, 3, 10, 14, 4, 0), (60, .bipush 7, 2, 0, 0, 0, 0), (62, .iload_n 1, 1, 0, 0, 0, 0), (63, .iadd, 1, 0, 0, 0, 0)],
  [(64, .iaload, 1, 0, 0, 0, 0), (65, .ireturn, 1, 0, 0, 0, 0), (66, .aload_n 0, 1, 0, 0, 0, 0), (67, .getfield 98, 3, 10, 14, 4, 0), (70, .bipush 13, 2, 0, 0, 0, 0), (72, .iload_n 1, 1, 0, 0, 0, 0), (73, .iadd, 1, 0, 0, 0, 0), (74, .iaload, 1, 0, 0, 0, 0), (75, .ireturn, 1, 0, 0, 0, 0), (76, .aload_n 0, 1, 0, 0, 0, 0), (77, .getfield 98, 3, 10, 14, 4, 0)],
  [(80, .bipush 19, 2, 0, 0, 0, 0), (82, .iload_n 1, 1, 0, 0, 0, 0), (83, .iadd, 1, 0, 0, 0, 0), (84, .iaload, 1, 0, 0, 0, 0), (85, .ireturn, 1, 0, 0, 0, 0), (86, .aload_n 0, 1, 0, 0, 0, 0), (87, .getfield 98, 3, 10, 14, 4, 0), (90, .bipush 25, 2, 0, 0, 0, 0), (92, .iload_n 1, 1, 0, 0, 0, 0), (93, .iadd, 1, 0, 0, 0, 0), (94, .iaload, 1, 0, 0, 0, 0), (95, .ireturn, 1, 0, 0, 0, 0)],
  [(96, .aload_n 0, 1, 0, 0, 0, 0), (97, .getfield 98, 3, 10, 14, 4, 0), (100, .bipush 31, 2, 0, 0, 0, 0), (102, .iload_n 1, 1, 0, 0, 0, 0), (103, .iadd, 1, 0, 0, 0, 0), (104, .iaload, 1, 0, 0, 0, 0), (105, .ireturn, 1, 0, 0, 0, 0), (106, .aload_n 0, 1, 0, 0, 0, 0), (107, .getfield 98, 3, 10, 14, 4, 0), (110, .bipush 65, 2, 0, 0, 0, 0)],
  [(112, .iaload, 1, 0, 0, 0, 0), (113, .iload_n 1, 1, 0, 0, 0, 0), (114, .invokestatic 257, 3, 170, 2, 0, 0), (117, .ifCond .eq 7, 3, 0, 0, 0, 0), (120, .iconst 1, 1, 0, 0, 0, 0), (121, .goto 4, 3, 0, 0, 0, 0), (124, .iconst 0, 1, 0, 0, 0, 0), (125, .ireturn, 1, 0, 0, 0, 0), (126, .iconst (-1), 1, 0, 0, 0, 0), (127, .ireturn, 1, 0, 0, 0, 0)]]
/-- LostKeysModel.lock(II)I -/
def rx_m196 : rx_Md := (yX10_lock, cX10_lock, 3, (some .int), 3, 1, 0, 0, rx_t196)
def rx_t197 : List (List rx_E) := [
  [(0, .iconst 0, 1, 0, 0, 0, 0), (1, .istore_n 2, 1, 0, 0, 0, 0), (2, .iconst 0, 1, 0, 0, 0, 0), (3, .istore_n 3, 1, 0, 0, 0, 0), (4, .iload_n 3, 1, 0, 0, 0, 0), (5, .aload_n 0, 1, 0, 0, 0, 0), (6, .getfield 98, 3, 10, 14, 4, 0), (9, .iconst 1, 1, 0, 0, 0, 0), (10, .iaload, 1, 0, 0, 0, 0), (11, .if_icmp .ge 24, 3, 0, 0, 0, 0), (14, .aload_n 0, 1, 0, 0, 0, 0), (15, .iload_n 1, 1, 0, 0, 0, 0)],
  [(16, .iload_n 3, 1, 0, 0, 0, 0), (17, .invokevirtual 287, 3, 176, 3, 14, 0), (20, .ifCond .eq 9, 3, 0, 0, 0, 0), (23, .iload_n 2, 1, 0, 0, 0, 0), (24, .iconst 1, 1, 0, 0, 0, 0), (25, .iload_n 3, 1, 0, 0, 0, 0), (26, .ishl, 1, 0, 0, 0, 0), (27, .ior, 1, 0, 0, 0, 0), (28, .istore_n 2, 1, 0, 0, 0, 0), (29, .iinc 3 1, 3, 0, 0, 0, 0)],
  [(32, .goto (-28), 3, 0, 0, 0, 0), (35, .iload_n 2, 1, 0, 0, 0, 0), (36, .ireturn, 1, 0, 0, 0, 0)]]
/-- LostKeysModel.locksOf(I)I -/
def rx_m197 : rx_Md := (yX10_locksOf, cX10_locksOf, 4, (some .int), 2, 1, 0, 0, rx_t197)
def rx_t198 : List (List rx_E) := [
  [(0, .aload_n 0, 1, 0, 0, 0, 0), (1, .iconst 0, 1, 0, 0, 0, 0), (2, .putfield 1, 3, 10, 0, 0, 0), (5, .aload_n 0, 1, 0, 0, 0, 0), (6, .iload_n 1, 1, 0, 0, 0, 0), (7, .invokevirtual 260, 3, 178, 2, 14, 0), (10, .ifCond .eq 11, 3, 0, 0, 0, 0), (13, .aload_n 0, 1, 0, 0, 0, 0), (14, .iload_n 2, 1, 0, 0, 0, 0), (15, .invokevirtual 254, 3, 180, 2, 14, 0)],
  [(18, .ifCond .ne 5, 3, 0, 0, 0, 0), (21, .iconst (-1), 1, 0, 0, 0, 0), (22, .ireturn, 1, 0, 0, 0, 0), (23, .aload_n 0, 1, 0, 0, 0, 0), (24, .getfield 98, 3, 10, 14, 4, 0), (27, .bipush 6, 2, 0, 0, 0, 0), (29, .iaload, 1, 0, 0, 0, 0), (30, .aload_n 0, 1, 0, 0, 0, 0), (31, .iload_n 1, 1, 0, 0, 0, 0)],
  [(32, .iload_n 2, 1, 0, 0, 0, 0), (33, .invokevirtual 250, 3, 212, 3, 14, 0), (36, .ifCond .ne 7, 3, 0, 0, 0, 0), (39, .iconst 1, 1, 0, 0, 0, 0), (40, .goto 9, 3, 0, 0, 0, 0), (43, .aload_n 0, 1, 0, 0, 0, 0), (44, .iload_n 1, 1, 0, 0, 0, 0), (45, .iload_n 2, 1, 0, 0, 0, 0), (46, .invokevirtual 250, 3, 212, 3, 14, 0)],
  [(49, .imul, 1, 0, 0, 0, 0), (50, .istore_n 3, 1, 0, 0, 0, 0), (51, .aload_n 0, 1, 0, 0, 0, 0), (52, .getfield 98, 3, 10, 14, 4, 0), (55, .bipush 64, 2, 0, 0, 0, 0), (57, .iaload, 1, 0, 0, 0, 0), (58, .iload_n 3, 1, 0, 0, 0, 0), (59, .iadd, 1, 0, 0, 0, 0), (60, .sipush 400, 3, 0, 0, 0, 0), (63, .if_icmp .le 5, 3, 0, 0, 0, 0)],
  [(66, .iconst (-1), 1, 0, 0, 0, 0), (67, .ireturn, 1, 0, 0, 0, 0), (68, .iconst 0, 1, 0, 0, 0, 0), (69, .istore 4, 2, 0, 0, 0, 0), (71, .iload 4, 2, 0, 0, 0, 0), (73, .aload_n 0, 1, 0, 0, 0, 0), (74, .getfield 98, 3, 10, 14, 4, 0), (77, .iconst 5, 1, 0, 0, 0, 0), (78, .iaload, 1, 0, 0, 0, 0), (79, .if_icmp .ge 58, 3, 0, 0, 0, 0)],
  [(82, .iconst 0, 1, 0, 0, 0, 0), (83, .istore 5, 2, 0, 0, 0, 0), (85, .iload 5, 2, 0, 0, 0, 0), (87, .aload_n 0, 1, 0, 0, 0, 0), (88, .getfield 98, 3, 10, 14, 4, 0), (91, .iconst 4, 1, 0, 0, 0, 0), (92, .iaload, 1, 0, 0, 0, 0), (93, .if_icmp .ge 38, 3, 0, 0, 0, 0)],
  [(96, .aload_n 0, 1, 0, 0, 0, 0), (97, .iload 5, 2, 0, 0, 0, 0), (99, .iload 4, 2, 0, 0, 0, 0), (101, .invokevirtual 307, 3, 208, 3, 14, 0), (104, .iload_n 2, 1, 0, 0, 0, 0), (105, .if_icmp .eq 6, 3, 0, 0, 0, 0), (108, .goto 17, 3, 0, 0, 0, 0), (111, .aload_n 0, 1, 0, 0, 0, 0)],
  [(112, .iload 5, 2, 0, 0, 0, 0), (114, .putfield 130, 3, 10, 25, 0, 0), (117, .aload_n 0, 1, 0, 0, 0, 0), (118, .iload 4, 2, 0, 0, 0, 0), (120, .putfield 133, 3, 10, 26, 0, 0), (123, .iload_n 3, 1, 0, 0, 0, 0), (124, .ireturn, 1, 0, 0, 0, 0), (125, .iinc 5 1, 3, 0, 0, 0, 0)],
  [(128, .goto (-43), 3, 0, 0, 0, 0), (131, .iinc 4 1, 3, 0, 0, 0, 0), (134, .goto (-63), 3, 0, 0, 0, 0), (137, .iconst (-1), 1, 0, 0, 0, 0), (138, .ireturn, 1, 0, 0, 0, 0)]]
/-- LostKeysModel.losing(II)I -/
def rx_m198 : rx_Md := (yX10_losing, cX10_losing, 6, (some .int), 3, 1, 0, 0, rx_t198)
def rx_t199 : List (List rx_E) := [
  [(0, .aload_n 0, 1, 0, 0, 0, 0), (1, .iconst 0, 1, 0, 0, 0, 0), (2, .putfield 1, 3, 10, 0, 0, 0), (5, .iload_n 1, 1, 0, 0, 0, 0), (6, .ifCond .ne 10, 3, 0, 0, 0, 0), (9, .aload_n 0, 1, 0, 0, 0, 0), (10, .getfield 130, 3, 10, 25, 0, 0), (13, .goto 16, 3, 0, 0, 0, 0)],
  [(16, .iload_n 1, 1, 0, 0, 0, 0), (17, .iconst 1, 1, 0, 0, 0, 0), (18, .if_icmp .ne 10, 3, 0, 0, 0, 0), (21, .aload_n 0, 1, 0, 0, 0, 0), (22, .getfield 133, 3, 10, 26, 0, 0), (25, .goto 4, 3, 0, 0, 0, 0), (28, .iconst (-1), 1, 0, 0, 0, 0), (29, .ireturn, 1, 0, 0, 0, 0)]]
/-- LostKeysModel.lost(I)I -/
def rx_m199 : rx_Md := (yX10_lost, cX10_lost, 2, (some .int), 2, 1, 0, 0, rx_t199)
def rx_t200 : List (List rx_E) := [
  [(0, .iconst 1, 1, 0, 0, 0, 0), (1, .istore_n 1, 1, 0, 0, 0, 0), (2, .iload_n 0, 1, 0, 0, 0, 0), (3, .iload_n 1, 1, 0, 0, 0, 0), (4, .iand, 1, 0, 0, 0, 0), (5, .ifCond .ne 10, 3, 0, 0, 0, 0), (8, .iload_n 1, 1, 0, 0, 0, 0), (9, .iconst 2, 1, 0, 0, 0, 0), (10, .imul, 1, 0, 0, 0, 0), (11, .istore_n 1, 1, 0, 0, 0, 0), (12, .goto (-10), 3, 0, 0, 0, 0), (15, .iload_n 1, 1, 0, 0, 0, 0)],
  [(16, .ireturn, 1, 0, 0, 0, 0)]]
/-- LostKeysModel.lowest(I)I -/
def rx_m200 : rx_Md := (yX10_lowest, cX10_lowest, 2, (some .int), 1, 0, 0, 0, rx_t200)
def rx_t201 : List (List rx_E) := [
  [(0, .iconst 0, 1, 0, 0, 0, 0), (1, .istore_n 1, 1, 0, 0, 0, 0), (2, .iconst 0, 1, 0, 0, 0, 0), (3, .istore_n 2, 1, 0, 0, 0, 0), (4, .iload_n 2, 1, 0, 0, 0, 0), (5, .aload_n 0, 1, 0, 0, 0, 0), (6, .getfield 98, 3, 10, 14, 4, 0), (9, .iconst 3, 1, 0, 0, 0, 0), (10, .iaload, 1, 0, 0, 0, 0), (11, .if_icmp .ge 23, 3, 0, 0, 0, 0), (14, .aload_n 0, 1, 0, 0, 0, 0), (15, .iload_n 2, 1, 0, 0, 0, 0)],
  [(16, .invokevirtual 242, 3, 194, 2, 14, 0), (19, .ifCond .eq 9, 3, 0, 0, 0, 0), (22, .iload_n 1, 1, 0, 0, 0, 0), (23, .iconst 1, 1, 0, 0, 0, 0), (24, .iload_n 2, 1, 0, 0, 0, 0), (25, .ishl, 1, 0, 0, 0, 0), (26, .ior, 1, 0, 0, 0, 0), (27, .istore_n 1, 1, 0, 0, 0, 0), (28, .iinc 2 1, 3, 0, 0, 0, 0), (31, .goto (-27), 3, 0, 0, 0, 0)],
  [(34, .iload_n 1, 1, 0, 0, 0, 0), (35, .ireturn, 1, 0, 0, 0, 0)]]
/-- LostKeysModel.lying()I -/
def rx_m201 : rx_Md := (yX10_lying, cX10_lying, 3, (some .int), 1, 1, 0, 0, rx_t201)
def rx_t202 : List (List rx_E) := [
  [(0, .iconst 0, 1, 0, 0, 0, 0), (1, .istore_n 2, 1, 0, 0, 0, 0), (2, .iconst 0, 1, 0, 0, 0, 0), (3, .istore_n 3, 1, 0, 0, 0, 0), (4, .iload_n 3, 1, 0, 0, 0, 0), (5, .aload_n 0, 1, 0, 0, 0, 0), (6, .getfield 98, 3, 10, 14, 4, 0), (9, .iconst 3, 1, 0, 0, 0, 0), (10, .iaload, 1, 0, 0, 0, 0), (11, .if_icmp .ge 65, 3, 0, 0, 0, 0), (14, .aload_n 0, 1, 0, 0, 0, 0), (15, .iload_n 3, 1, 0, 0, 0, 0)],
  [(16, .invokevirtual 242, 3, 194, 2, 14, 0), (19, .ifCond .eq 51, 3, 0, 0, 0, 0), (22, .aload_n 0, 1, 0, 0, 0, 0), (23, .getfield 98, 3, 10, 14, 4, 0), (26, .bipush 85, 2, 0, 0, 0, 0), (28, .iload_n 3, 1, 0, 0, 0, 0), (29, .iadd, 1, 0, 0, 0, 0), (30, .iaload, 1, 0, 0, 0, 0), (31, .aload_n 0, 1, 0, 0, 0, 0)],
  [(32, .getfield 98, 3, 10, 14, 4, 0), (35, .bipush 67, 2, 0, 0, 0, 0), (37, .iload_n 1, 1, 0, 0, 0, 0), (38, .iadd, 1, 0, 0, 0, 0), (39, .iaload, 1, 0, 0, 0, 0), (40, .if_icmp .ne 30, 3, 0, 0, 0, 0), (43, .aload_n 0, 1, 0, 0, 0, 0), (44, .getfield 98, 3, 10, 14, 4, 0), (47, .bipush 93, 2, 0, 0, 0, 0)],
  [(49, .iload_n 3, 1, 0, 0, 0, 0), (50, .iadd, 1, 0, 0, 0, 0), (51, .iaload, 1, 0, 0, 0, 0), (52, .aload_n 0, 1, 0, 0, 0, 0), (53, .getfield 98, 3, 10, 14, 4, 0), (56, .bipush 72, 2, 0, 0, 0, 0), (58, .iload_n 1, 1, 0, 0, 0, 0), (59, .iadd, 1, 0, 0, 0, 0), (60, .iaload, 1, 0, 0, 0, 0), (61, .if_icmp .ne 9, 3, 0, 0, 0, 0)],
  [(64, .iload_n 2, 1, 0, 0, 0, 0), (65, .iconst 1, 1, 0, 0, 0, 0), (66, .iload_n 3, 1, 0, 0, 0, 0), (67, .ishl, 1, 0, 0, 0, 0), (68, .ior, 1, 0, 0, 0, 0), (69, .istore_n 2, 1, 0, 0, 0, 0), (70, .iinc 3 1, 3, 0, 0, 0, 0), (73, .goto (-69), 3, 0, 0, 0, 0), (76, .iload_n 2, 1, 0, 0, 0, 0), (77, .ireturn, 1, 0, 0, 0, 0)]]
/-- LostKeysModel.lyingBy(I)I -/
def rx_m202 : rx_Md := (yX10_lyingBy, cX10_lyingBy, 4, (some .int), 2, 1, 0, 0, rx_t202)
def rx_t203 : List (List rx_E) := [
  [(0, .aload_n 0, 1, 0, 0, 0, 0), (1, .iconst 0, 1, 0, 0, 0, 0), (2, .putfield 1, 3, 10, 0, 0, 0), (5, .aload_n 0, 1, 0, 0, 0, 0), (6, .iload_n 1, 1, 0, 0, 0, 0), (7, .invokevirtual 275, 3, 181, 2, 14, 0), (10, .ifCond .ne 8, 3, 0, 0, 0, 0), (13, .aload_n 0, 1, 0, 0, 0, 0), (14, .invokevirtual 263, 3, 242, 1, 14, 0)],
  [(17, .ireturn, 1, 0, 0, 0, 0), (18, .iload_n 2, 1, 0, 0, 0, 0), (19, .tableswitch 61 0 3 #[29, 39, 49, 55], 29, 0, 0, 0, 0)],
  [],
  [(48, .aload_n 0, 1, 0, 0, 0, 0), (49, .getfield 98, 3, 10, 14, 4, 0), (52, .bipush 67, 2, 0, 0, 0, 0), (54, .iload_n 1, 1, 0, 0, 0, 0), (55, .iadd, 1, 0, 0, 0, 0), (56, .iaload, 1, 0, 0, 0, 0), (57, .ireturn, 1, 0, 0, 0, 0), (58, .aload_n 0, 1, 0, 0, 0, 0), (59, .getfield 98, 3, 10, 14, 4, 0), (62, .bipush 72, 2, 0, 0, 0, 0)],
  [(64, .iload_n 1, 1, 0, 0, 0, 0), (65, .iadd, 1, 0, 0, 0, 0), (66, .iaload, 1, 0, 0, 0, 0), (67, .ireturn, 1, 0, 0, 0, 0), (68, .aload_n 0, 1, 0, 0, 0, 0), (69, .iload_n 1, 1, 0, 0, 0, 0), (70, .invokevirtual 278, 3, 169, 2, 14, 0), (73, .ireturn, 1, 0, 0, 0, 0), (74, .aload_n 0, 1, 0, 0, 0, 0), (75, .iload_n 1, 1, 0, 0, 0, 0), (76, .invokevirtual 281, 3, 202, 2, 14, 0), (79, .ireturn, 1, 0, 0, 0, 0)],
  [(80, .aload_n 0, 1, 0, 0, 0, 0), (81, .invokevirtual 263, 3, 242, 1, 14, 0), (84, .ireturn, 1, 0, 0, 0, 0)]]
/-- LostKeysModel.man(II)I -/
def rx_m203 : rx_Md := (yX10_man, cX10_man, 3, (some .int), 3, 1, 0, 0, rx_t203)
def rx_t204 : List (List rx_E) := [
  [(0, .aload_n 0, 1, 0, 0, 0, 0), (1, .iconst 0, 1, 0, 0, 0, 0), (2, .putfield 1, 3, 10, 0, 0, 0), (5, .iconst 0, 1, 0, 0, 0, 0), (6, .istore_n 1, 1, 0, 0, 0, 0), (7, .iload_n 1, 1, 0, 0, 0, 0), (8, .bipush 6, 2, 0, 0, 0, 0), (10, .if_icmp .ge 21, 3, 0, 0, 0, 0), (13, .aload_n 0, 1, 0, 0, 0, 0), (14, .getfield 142, 3, 10, 29, 4, 0)],
  [(17, .iload_n 1, 1, 0, 0, 0, 0), (18, .aload_n 0, 1, 0, 0, 0, 0), (19, .getfield 139, 3, 10, 28, 4, 0), (22, .iload_n 1, 1, 0, 0, 0, 0), (23, .iaload, 1, 0, 0, 0, 0), (24, .iastore, 1, 0, 0, 0, 0), (25, .iinc 1 1, 3, 0, 0, 0, 0), (28, .goto (-21), 3, 0, 0, 0, 0), (31, .aload_n 0, 1, 0, 0, 0, 0)],
  [(32, .sipush 1000, 3, 0, 0, 0, 0), (35, .putfield 325, 3, 10, 30, 0, 0), (38, .aload_n 0, 1, 0, 0, 0, 0), (39, .iconst 0, 1, 0, 0, 0, 0), (40, .iconst 0, 1, 0, 0, 0, 0), (41, .iconst 0, 1, 0, 0, 0, 0), (42, .invokevirtual 328, 3, 205, 4, 14, 0), (45, .aload_n 0, 1, 0, 0, 0, 0), (46, .getfield 325, 3, 10, 30, 0, 0)],
  [(49, .sipush 1000, 3, 0, 0, 0, 0), (52, .if_icmp .ne 31, 3, 0, 0, 0, 0), (55, .iconst 0, 1, 0, 0, 0, 0), (56, .istore_n 1, 1, 0, 0, 0, 0), (57, .iload_n 1, 1, 0, 0, 0, 0), (58, .bipush 6, 2, 0, 0, 0, 0), (60, .if_icmp .ge 21, 3, 0, 0, 0, 0), (63, .aload_n 0, 1, 0, 0, 0, 0)],
  [(64, .getfield 139, 3, 10, 28, 4, 0), (67, .iload_n 1, 1, 0, 0, 0, 0), (68, .aload_n 0, 1, 0, 0, 0, 0), (69, .getfield 142, 3, 10, 29, 4, 0), (72, .iload_n 1, 1, 0, 0, 0, 0), (73, .iaload, 1, 0, 0, 0, 0), (74, .iastore, 1, 0, 0, 0, 0), (75, .iinc 1 1, 3, 0, 0, 0, 0), (78, .goto (-21), 3, 0, 0, 0, 0)],
  [(81, .iconst (-1), 1, 0, 0, 0, 0), (82, .ireturn, 1, 0, 0, 0, 0), (83, .aload_n 0, 1, 0, 0, 0, 0), (84, .iconst 1, 1, 0, 0, 0, 0), (85, .putfield 332, 3, 10, 31, 2, 0), (88, .aload_n 0, 1, 0, 0, 0, 0), (89, .getfield 325, 3, 10, 30, 0, 0), (92, .ireturn, 1, 0, 0, 0, 0)]]
/-- LostKeysModel.match()I -/
def rx_m204 : rx_Md := (yX10_match, cX10_match, 2, (some .int), 1, 1, 0, 0, rx_t204)
def rx_t205 : List (List rx_E) := [
  [(0, .iload_n 3, 1, 0, 0, 0, 0), (1, .aload_n 0, 1, 0, 0, 0, 0), (2, .getfield 325, 3, 10, 30, 0, 0), (5, .if_icmp .lt 4, 3, 0, 0, 0, 0), (8, .return_, 1, 0, 0, 0, 0), (9, .iload_n 1, 1, 0, 0, 0, 0), (10, .aload_n 0, 1, 0, 0, 0, 0), (11, .getfield 98, 3, 10, 14, 4, 0), (14, .iconst 1, 1, 0, 0, 0, 0), (15, .iaload, 1, 0, 0, 0, 0)],
  [(16, .if_icmp .ne 49, 3, 0, 0, 0, 0), (19, .aload_n 0, 1, 0, 0, 0, 0), (20, .iload_n 3, 1, 0, 0, 0, 0), (21, .putfield 325, 3, 10, 30, 0, 0), (24, .iconst 0, 1, 0, 0, 0, 0), (25, .istore 4, 2, 0, 0, 0, 0), (27, .iload 4, 2, 0, 0, 0, 0), (29, .bipush 6, 2, 0, 0, 0, 0), (31, .if_icmp .ge 33, 3, 0, 0, 0, 0)],
  [(34, .aload_n 0, 1, 0, 0, 0, 0), (35, .getfield 139, 3, 10, 28, 4, 0), (38, .iload 4, 2, 0, 0, 0, 0), (40, .iload 4, 2, 0, 0, 0, 0), (42, .iload_n 1, 1, 0, 0, 0, 0), (43, .if_icmp .ge 13, 3, 0, 0, 0, 0), (46, .aload_n 0, 1, 0, 0, 0, 0), (47, .getfield 136, 3, 10, 27, 4, 0)],
  [(50, .iload 4, 2, 0, 0, 0, 0), (52, .iaload, 1, 0, 0, 0, 0), (53, .goto 4, 3, 0, 0, 0, 0), (56, .iconst (-1), 1, 0, 0, 0, 0), (57, .iastore, 1, 0, 0, 0, 0), (58, .iinc 4 1, 3, 0, 0, 0, 0), (61, .goto (-34), 3, 0, 0, 0, 0)],
  [(64, .return_, 1, 0, 0, 0, 0), (65, .aload_n 0, 1, 0, 0, 0, 0), (66, .getfield 98, 3, 10, 14, 4, 0), (69, .bipush 65, 2, 0, 0, 0, 0), (71, .iaload, 1, 0, 0, 0, 0), (72, .iload_n 1, 1, 0, 0, 0, 0), (73, .invokestatic 257, 3, 170, 2, 0, 0), (76, .ifCond .eq 20, 3, 0, 0, 0, 0), (79, .aload_n 0, 1, 0, 0, 0, 0)],
  [(80, .getfield 136, 3, 10, 27, 4, 0), (83, .iload_n 1, 1, 0, 0, 0, 0), (84, .iconst (-1), 1, 0, 0, 0, 0), (85, .iastore, 1, 0, 0, 0, 0), (86, .aload_n 0, 1, 0, 0, 0, 0), (87, .iload_n 1, 1, 0, 0, 0, 0), (88, .iconst 1, 1, 0, 0, 0, 0), (89, .iadd, 1, 0, 0, 0, 0), (90, .iload_n 2, 1, 0, 0, 0, 0), (91, .iload_n 3, 1, 0, 0, 0, 0), (92, .invokevirtual 328, 3, 205, 4, 14, 0), (95, .return_, 1, 0, 0, 0, 0)],
  [(96, .iconst 0, 1, 0, 0, 0, 0), (97, .istore 4, 2, 0, 0, 0, 0), (99, .iload 4, 2, 0, 0, 0, 0), (101, .aload_n 0, 1, 0, 0, 0, 0), (102, .getfield 98, 3, 10, 14, 4, 0), (105, .iconst 3, 1, 0, 0, 0, 0), (106, .iaload, 1, 0, 0, 0, 0), (107, .if_icmp .ge 51, 3, 0, 0, 0, 0), (110, .iload_n 2, 1, 0, 0, 0, 0), (111, .iload 4, 2, 0, 0, 0, 0)],
  [(113, .invokestatic 257, 3, 170, 2, 0, 0), (116, .ifCond .eq 6, 3, 0, 0, 0, 0), (119, .goto 33, 3, 0, 0, 0, 0), (122, .aload_n 0, 1, 0, 0, 0, 0), (123, .getfield 136, 3, 10, 27, 4, 0), (126, .iload_n 1, 1, 0, 0, 0, 0), (127, .iload 4, 2, 0, 0, 0, 0)],
  [(129, .iastore, 1, 0, 0, 0, 0), (130, .aload_n 0, 1, 0, 0, 0, 0), (131, .iload_n 1, 1, 0, 0, 0, 0), (132, .iconst 1, 1, 0, 0, 0, 0), (133, .iadd, 1, 0, 0, 0, 0), (134, .iload_n 2, 1, 0, 0, 0, 0), (135, .iconst 1, 1, 0, 0, 0, 0), (136, .iload 4, 2, 0, 0, 0, 0), (138, .ishl, 1, 0, 0, 0, 0), (139, .ior, 1, 0, 0, 0, 0), (140, .iload_n 3, 1, 0, 0, 0, 0), (141, .aload_n 0, 1, 0, 0, 0, 0), (142, .iload 4, 2, 0, 0, 0, 0)],
  [(144, .iload_n 1, 1, 0, 0, 0, 0), (145, .invokevirtual 250, 3, 212, 3, 14, 0), (148, .iadd, 1, 0, 0, 0, 0), (149, .invokevirtual 328, 3, 205, 4, 14, 0), (152, .iinc 4 1, 3, 0, 0, 0, 0), (155, .goto (-56), 3, 0, 0, 0, 0), (158, .return_, 1, 0, 0, 0, 0)]]
/-- LostKeysModel.matchFrom(III)V -/
def rx_m205 : rx_Md := (yX10_matchFrom, cX10_matchFrom, 5, none, 4, 1, 0, 0, rx_t205)
def rx_t206 : List (List rx_E) := [
  [(0, .aload_n 0, 1, 0, 0, 0, 0), (1, .iconst 0, 1, 0, 0, 0, 0), (2, .putfield 1, 3, 10, 0, 0, 0), (5, .aload_n 0, 1, 0, 0, 0, 0), (6, .getfield 332, 3, 10, 31, 2, 0), (9, .ifCond .eq 21, 3, 0, 0, 0, 0), (12, .iload_n 1, 1, 0, 0, 0, 0), (13, .iconst 0, 1, 0, 0, 0, 0), (14, .iconst 5, 1, 0, 0, 0, 0), (15, .invokestatic 75, 3, 177, 3, 0, 0)],
  [(18, .ifCond .eq 12, 3, 0, 0, 0, 0), (21, .aload_n 0, 1, 0, 0, 0, 0), (22, .getfield 139, 3, 10, 28, 4, 0), (25, .iload_n 1, 1, 0, 0, 0, 0), (26, .iaload, 1, 0, 0, 0, 0), (27, .goto 4, 3, 0, 0, 0, 0), (30, .iconst (-1), 1, 0, 0, 0, 0), (31, .ireturn, 1, 0, 0, 0, 0)]]
/-- LostKeysModel.matched(I)I -/
def rx_m206 : rx_Md := (yX10_matched, cX10_matched, 2, (some .int), 2, 1, 0, 0, rx_t206)
def rx_t207 : List (List rx_E) := [
  [(0, .aload_n 0, 1, 0, 0, 0, 0), (1, .iconst 0, 1, 0, 0, 0, 0), (2, .putfield 1, 3, 10, 0, 0, 0), (5, .aload_n 0, 1, 0, 0, 0, 0), (6, .iload_n 1, 1, 0, 0, 0, 0), (7, .iload_n 2, 1, 0, 0, 0, 0), (8, .invokevirtual 304, 3, 173, 3, 14, 0), (11, .ifCond .eq 12, 3, 0, 0, 0, 0), (14, .aload_n 0, 1, 0, 0, 0, 0), (15, .iload_n 1, 1, 0, 0, 0, 0)],
  [(16, .iload_n 2, 1, 0, 0, 0, 0), (17, .invokevirtual 307, 3, 208, 3, 14, 0), (20, .goto 4, 3, 0, 0, 0, 0), (23, .iconst (-1), 1, 0, 0, 0, 0), (24, .ireturn, 1, 0, 0, 0, 0)]]
/-- LostKeysModel.nearest(II)I -/
def rx_m207 : rx_Md := (yX10_nearest, cX10_nearest, 3, (some .int), 3, 1, 0, 0, rx_t207)
def rx_t208 : List (List rx_E) := [
  [(0, .iconst (-1), 1, 0, 0, 0, 0), (1, .istore_n 3, 1, 0, 0, 0, 0), (2, .sipush 1000, 3, 0, 0, 0, 0), (5, .istore 4, 2, 0, 0, 0, 0), (7, .aload_n 0, 1, 0, 0, 0, 0), (8, .getfield 98, 3, 10, 14, 4, 0), (11, .iconst 1, 1, 0, 0, 0, 0), (12, .iaload, 1, 0, 0, 0, 0), (13, .iconst 1, 1, 0, 0, 0, 0), (14, .isub, 1, 0, 0, 0, 0), (15, .istore 5, 2, 0, 0, 0, 0)],
  [(17, .iload 5, 2, 0, 0, 0, 0), (19, .ifCond .lt 59, 3, 0, 0, 0, 0), (22, .aload_n 0, 1, 0, 0, 0, 0), (23, .getfield 98, 3, 10, 14, 4, 0), (26, .bipush 19, 2, 0, 0, 0, 0), (28, .iload 5, 2, 0, 0, 0, 0), (30, .iadd, 1, 0, 0, 0, 0), (31, .iaload, 1, 0, 0, 0, 0)],
  [(32, .iload_n 1, 1, 0, 0, 0, 0), (33, .isub, 1, 0, 0, 0, 0), (34, .invokestatic 245, 3, 247, 1, 0, 0), (37, .aload_n 0, 1, 0, 0, 0, 0), (38, .getfield 98, 3, 10, 14, 4, 0), (41, .bipush 25, 2, 0, 0, 0, 0), (43, .iload 5, 2, 0, 0, 0, 0), (45, .iadd, 1, 0, 0, 0, 0), (46, .iaload, 1, 0, 0, 0, 0), (47, .iload_n 2, 1, 0, 0, 0, 0)],
  [(48, .isub, 1, 0, 0, 0, 0), (49, .invokestatic 245, 3, 247, 1, 0, 0), (52, .iadd, 1, 0, 0, 0, 0), (53, .istore 6, 2, 0, 0, 0, 0), (55, .iload 6, 2, 0, 0, 0, 0), (57, .iload 4, 2, 0, 0, 0, 0), (59, .if_icmp .le 6, 3, 0, 0, 0, 0), (62, .goto 10, 3, 0, 0, 0, 0)],
  [(65, .iload 6, 2, 0, 0, 0, 0), (67, .istore 4, 2, 0, 0, 0, 0), (69, .iload 5, 2, 0, 0, 0, 0), (71, .istore_n 3, 1, 0, 0, 0, 0), (72, .iinc 5 (-1), 3, 0, 0, 0, 0), (75, .goto (-58), 3, 0, 0, 0, 0), (78, .iload_n 3, 1, 0, 0, 0, 0), (79, .ireturn, 1, 0, 0, 0, 0)]]
/-- LostKeysModel.nearestTo(II)I -/
def rx_m208 : rx_Md := (yX10_nearestTo, cX10_nearestTo, 7, (some .int), 3, 1, 0, 0, rx_t208)
def rx_t209 : List (List rx_E) := [
  [(0, .aload_n 0, 1, 0, 0, 0, 0), (1, .iconst 0, 1, 0, 0, 0, 0), (2, .putfield 1, 3, 10, 0, 0, 0), (5, .iconst 0, 1, 0, 0, 0, 0), (6, .istore_n 2, 1, 0, 0, 0, 0), (7, .iload_n 1, 1, 0, 0, 0, 0), (8, .tableswitch 93 0 4 #[36, 44, 49, 57, 85], 36, 0, 0, 0, 0)],
  [],
  [(44, .aload_n 0, 1, 0, 0, 0, 0), (45, .getfield 98, 3, 10, 14, 4, 0)],
  [(48, .bipush 64, 2, 0, 0, 0, 0), (50, .iaload, 1, 0, 0, 0, 0), (51, .ireturn, 1, 0, 0, 0, 0), (52, .aload_n 0, 1, 0, 0, 0, 0), (53, .invokevirtual 284, 3, 201, 1, 14, 0), (56, .ireturn, 1, 0, 0, 0, 0), (57, .aload_n 0, 1, 0, 0, 0, 0), (58, .getfield 98, 3, 10, 14, 4, 0), (61, .bipush 65, 2, 0, 0, 0, 0), (63, .iaload, 1, 0, 0, 0, 0)],
  [(64, .ireturn, 1, 0, 0, 0, 0), (65, .iconst 0, 1, 0, 0, 0, 0), (66, .istore_n 3, 1, 0, 0, 0, 0), (67, .iload_n 3, 1, 0, 0, 0, 0), (68, .bipush 8, 2, 0, 0, 0, 0), (70, .if_icmp .ge 21, 3, 0, 0, 0, 0), (73, .iload_n 2, 1, 0, 0, 0, 0), (74, .aload_n 0, 1, 0, 0, 0, 0), (75, .getfield 98, 3, 10, 14, 4, 0), (78, .bipush 117, 2, 0, 0, 0, 0)],
  [(80, .iload_n 3, 1, 0, 0, 0, 0), (81, .iadd, 1, 0, 0, 0, 0), (82, .iaload, 1, 0, 0, 0, 0), (83, .iadd, 1, 0, 0, 0, 0), (84, .istore_n 2, 1, 0, 0, 0, 0), (85, .iinc 3 1, 3, 0, 0, 0, 0), (88, .goto (-21), 3, 0, 0, 0, 0), (91, .iload_n 2, 1, 0, 0, 0, 0), (92, .ireturn, 1, 0, 0, 0, 0), (93, .aload_n 0, 1, 0, 0, 0, 0), (94, .getfield 98, 3, 10, 14, 4, 0)],
  [(97, .bipush 66, 2, 0, 0, 0, 0), (99, .iaload, 1, 0, 0, 0, 0), (100, .ireturn, 1, 0, 0, 0, 0), (101, .iconst (-1), 1, 0, 0, 0, 0), (102, .ireturn, 1, 0, 0, 0, 0)]]
/-- LostKeysModel.now(I)I -/
def rx_m209 : rx_Md := (yX10_now, cX10_now, 4, (some .int), 2, 1, 0, 0, rx_t209)
def rx_t210 : List (List rx_E) := [
  [(0, .aload_n 0, 1, 0, 0, 0, 0), (1, .iconst 0, 1, 0, 0, 0, 0), (2, .putfield 1, 3, 10, 0, 0, 0), (5, .aload_n 0, 1, 0, 0, 0, 0), (6, .iload_n 1, 1, 0, 0, 0, 0), (7, .invokevirtual 254, 3, 180, 2, 14, 0), (10, .ifCond .eq 13, 3, 0, 0, 0, 0), (13, .iload_n 2, 1, 0, 0, 0, 0), (14, .iconst 1, 1, 0, 0, 0, 0), (15, .bipush 30, 2, 0, 0, 0, 0)],
  [(17, .invokestatic 75, 3, 177, 3, 0, 0), (20, .ifCond .ne 5, 3, 0, 0, 0, 0), (23, .iconst (-1), 1, 0, 0, 0, 0), (24, .ireturn, 1, 0, 0, 0, 0), (25, .aload_n 0, 1, 0, 0, 0, 0), (26, .invokevirtual 336, 3, 191, 1, 14, 0), (29, .iconst 0, 1, 0, 0, 0, 0), (30, .istore 4, 2, 0, 0, 0, 0)],
  [(32, .iconst 0, 1, 0, 0, 0, 0), (33, .istore 5, 2, 0, 0, 0, 0), (35, .iload 5, 2, 0, 0, 0, 0), (37, .iload_n 2, 1, 0, 0, 0, 0), (38, .if_icmp .ge 41, 3, 0, 0, 0, 0), (41, .aload_n 0, 1, 0, 0, 0, 0), (42, .bipush 20, 2, 0, 0, 0, 0), (44, .iload_n 3, 1, 0, 0, 0, 0), (45, .iload 5, 2, 0, 0, 0, 0), (47, .iadd, 1, 0, 0, 0, 0)],
  [(48, .invokevirtual 394, 3, 155, 3, 14, 0), (51, .pop, 1, 0, 0, 0, 0), (52, .aload_n 0, 1, 0, 0, 0, 0), (53, .getfield 98, 3, 10, 14, 4, 0), (56, .bipush 65, 2, 0, 0, 0, 0), (58, .iaload, 1, 0, 0, 0, 0), (59, .iload_n 1, 1, 0, 0, 0, 0), (60, .invokestatic 257, 3, 170, 2, 0, 0), (63, .ifCond .eq 6, 3, 0, 0, 0, 0)],
  [(66, .iinc 4 1, 3, 0, 0, 0, 0), (69, .aload_n 0, 1, 0, 0, 0, 0), (70, .invokevirtual 339, 3, 255, 1, 14, 0), (73, .iinc 5 1, 3, 0, 0, 0, 0), (76, .goto (-41), 3, 0, 0, 0, 0), (79, .iload 4, 2, 0, 0, 0, 0)],
  [(81, .ireturn, 1, 0, 0, 0, 0)]]
/-- LostKeysModel.odds(III)I -/
def rx_m210 : rx_Md := (yX10_odds, cX10_odds, 6, (some .int), 4, 1, 0, 0, rx_t210)
def rx_t211 : List (List rx_E) := [
  [(0, .aload_n 0, 1, 0, 0, 0, 0), (1, .iconst 0, 1, 0, 0, 0, 0), (2, .putfield 1, 3, 10, 0, 0, 0), (5, .aload_n 0, 1, 0, 0, 0, 0), (6, .iload_n 1, 1, 0, 0, 0, 0), (7, .invokevirtual 260, 3, 178, 2, 14, 0), (10, .ifCond .eq 20, 3, 0, 0, 0, 0), (13, .aload_n 0, 1, 0, 0, 0, 0), (14, .iload_n 2, 1, 0, 0, 0, 0), (15, .invokevirtual 254, 3, 180, 2, 14, 0)],
  [(18, .ifCond .eq 12, 3, 0, 0, 0, 0), (21, .aload_n 0, 1, 0, 0, 0, 0), (22, .iload_n 1, 1, 0, 0, 0, 0), (23, .iload_n 2, 1, 0, 0, 0, 0), (24, .invokevirtual 250, 3, 212, 3, 14, 0), (27, .goto 4, 3, 0, 0, 0, 0), (30, .iconst (-1), 1, 0, 0, 0, 0), (31, .ireturn, 1, 0, 0, 0, 0)]]
/-- LostKeysModel.off(II)I -/
def rx_m211 : rx_Md := (yX10_off, cX10_off, 3, (some .int), 3, 1, 0, 0, rx_t211)
def rx_t212 : List (List rx_E) := [
  [(0, .aload_n 0, 1, 0, 0, 0, 0), (1, .getfield 98, 3, 10, 14, 4, 0), (4, .bipush 101, 2, 0, 0, 0, 0), (6, .iload_n 1, 1, 0, 0, 0, 0), (7, .iadd, 1, 0, 0, 0, 0), (8, .iaload, 1, 0, 0, 0, 0), (9, .aload_n 0, 1, 0, 0, 0, 0), (10, .getfield 98, 3, 10, 14, 4, 0), (13, .bipush 31, 2, 0, 0, 0, 0), (15, .iload_n 2, 1, 0, 0, 0, 0)],
  [(16, .iadd, 1, 0, 0, 0, 0), (17, .iaload, 1, 0, 0, 0, 0), (18, .ixor, 1, 0, 0, 0, 0), (19, .invokestatic 247, 3, 146, 1, 0, 0), (22, .ireturn, 1, 0, 0, 0, 0)]]
/-- LostKeysModel.offOf(II)I -/
def rx_m212 : rx_Md := (yX10_offOf, cX10_offOf, 3, (some .int), 3, 1, 0, 0, rx_t212)
def rx_t213 : List (List rx_E) := [
  [(0, .iconst 0, 1, 0, 0, 0, 0), (1, .istore_n 1, 1, 0, 0, 0, 0), (2, .iload_n 1, 1, 0, 0, 0, 0), (3, .aload_n 0, 1, 0, 0, 0, 0), (4, .getfield 98, 3, 10, 14, 4, 0), (7, .iconst 3, 1, 0, 0, 0, 0), (8, .iaload, 1, 0, 0, 0, 0), (9, .if_icmp .ge 22, 3, 0, 0, 0, 0), (12, .aload_n 0, 1, 0, 0, 0, 0), (13, .iload_n 1, 1, 0, 0, 0, 0), (14, .invokevirtual 242, 3, 194, 2, 14, 0)],
  [(17, .ifCond .eq 8, 3, 0, 0, 0, 0), (20, .aload_n 0, 1, 0, 0, 0, 0), (21, .iload_n 1, 1, 0, 0, 0, 0), (22, .invokevirtual 313, 3, 150, 2, 14, 0), (25, .iinc 1 1, 3, 0, 0, 0, 0), (28, .goto (-26), 3, 0, 0, 0, 0), (31, .aload_n 0, 1, 0, 0, 0, 0)],
  [(32, .getfield 98, 3, 10, 14, 4, 0), (35, .bipush 64, 2, 0, 0, 0, 0), (37, .dup2, 1, 0, 0, 0, 0), (38, .iaload, 1, 0, 0, 0, 0), (39, .iconst 1, 1, 0, 0, 0, 0), (40, .iadd, 1, 0, 0, 0, 0), (41, .iastore, 1, 0, 0, 0, 0), (42, .return_, 1, 0, 0, 0, 0)]]
/-- LostKeysModel.oneDay()V -/
def rx_m213 : rx_Md := (yX10_oneDay, cX10_oneDay, 2, none, 1, 1, 0, 0, rx_t213)
def rx_t214 : List (List rx_E) := [
  [(0, .aload_n 0, 1, 0, 0, 0, 0), (1, .invokevirtual 336, 3, 191, 1, 14, 0), (4, .aload_n 0, 1, 0, 0, 0, 0), (5, .iload_n 1, 1, 0, 0, 0, 0), (6, .invokevirtual 322, 3, 217, 2, 14, 0), (9, .pop, 1, 0, 0, 0, 0), (10, .aload_n 0, 1, 0, 0, 0, 0), (11, .getfield 98, 3, 10, 14, 4, 0), (14, .bipush 65, 2, 0, 0, 0, 0)],
  [(16, .iaload, 1, 0, 0, 0, 0), (17, .istore_n 2, 1, 0, 0, 0, 0), (18, .aload_n 0, 1, 0, 0, 0, 0), (19, .invokevirtual 339, 3, 255, 1, 14, 0), (22, .iload_n 2, 1, 0, 0, 0, 0), (23, .ireturn, 1, 0, 0, 0, 0)]]
/-- LostKeysModel.openBehind(I)I -/
def rx_m214 : rx_Md := (yX10_openBehind, cX10_openBehind, 3, (some .int), 2, 1, 0, 0, rx_t214)
def rx_t215 : List (List rx_E) := [
  [(0, .aload_n 0, 1, 0, 0, 0, 0), (1, .iconst 0, 1, 0, 0, 0, 0), (2, .putfield 1, 3, 10, 0, 0, 0), (5, .iload_n 1, 1, 0, 0, 0, 0), (6, .iconst 0, 1, 0, 0, 0, 0), (7, .bipush 60, 2, 0, 0, 0, 0), (9, .invokestatic 75, 3, 177, 3, 0, 0), (12, .ifCond .eq 11, 3, 0, 0, 0, 0), (15, .aload_n 0, 1, 0, 0, 0, 0)],
  [(16, .iload_n 1, 1, 0, 0, 0, 0), (17, .invokevirtual 342, 3, 214, 2, 14, 0), (20, .goto 4, 3, 0, 0, 0, 0), (23, .iconst (-1), 1, 0, 0, 0, 0), (24, .ireturn, 1, 0, 0, 0, 0)]]
/-- LostKeysModel.opens(I)I -/
def rx_m215 : rx_Md := (yX10_opens, cX10_opens, 2, (some .int), 2, 1, 0, 0, rx_t215)
def rx_t216 : List (List rx_E) := [
  [(0, .aload_n 0, 1, 0, 0, 0, 0), (1, .getfield 98, 3, 10, 14, 4, 0), (4, .bipush 7, 2, 0, 0, 0, 0), (6, .iload_n 1, 1, 0, 0, 0, 0), (7, .iadd, 1, 0, 0, 0, 0), (8, .iaload, 1, 0, 0, 0, 0), (9, .iload_n 2, 1, 0, 0, 0, 0), (10, .if_icmp .ne 15, 3, 0, 0, 0, 0), (13, .aload_n 0, 1, 0, 0, 0, 0), (14, .getfield 98, 3, 10, 14, 4, 0)],
  [(17, .bipush 13, 2, 0, 0, 0, 0), (19, .iload_n 1, 1, 0, 0, 0, 0), (20, .iadd, 1, 0, 0, 0, 0), (21, .iaload, 1, 0, 0, 0, 0), (22, .goto 29, 3, 0, 0, 0, 0), (25, .aload_n 0, 1, 0, 0, 0, 0), (26, .getfield 98, 3, 10, 14, 4, 0), (29, .bipush 13, 2, 0, 0, 0, 0), (31, .iload_n 1, 1, 0, 0, 0, 0)],
  [(32, .iadd, 1, 0, 0, 0, 0), (33, .iaload, 1, 0, 0, 0, 0), (34, .iload_n 2, 1, 0, 0, 0, 0), (35, .if_icmp .ne 15, 3, 0, 0, 0, 0), (38, .aload_n 0, 1, 0, 0, 0, 0), (39, .getfield 98, 3, 10, 14, 4, 0), (42, .bipush 7, 2, 0, 0, 0, 0), (44, .iload_n 1, 1, 0, 0, 0, 0), (45, .iadd, 1, 0, 0, 0, 0), (46, .iaload, 1, 0, 0, 0, 0), (47, .goto 4, 3, 0, 0, 0, 0)],
  [(50, .iconst (-1), 1, 0, 0, 0, 0), (51, .ireturn, 1, 0, 0, 0, 0)]]
/-- LostKeysModel.otherRoom(II)I -/
def rx_m216 : rx_Md := (yX10_otherRoom, cX10_otherRoom, 3, (some .int), 3, 1, 0, 0, rx_t216)
def rx_t217 : List (List rx_E) := [
  [(0, .iload_n 1, 1, 0, 0, 0, 0), (1, .sipush 400, 3, 0, 0, 0, 0), (4, .aload_n 0, 1, 0, 0, 0, 0), (5, .getfield 98, 3, 10, 14, 4, 0), (8, .bipush 64, 2, 0, 0, 0, 0), (10, .iaload, 1, 0, 0, 0, 0), (11, .isub, 1, 0, 0, 0, 0), (12, .invokestatic 316, 3, 193, 2, 0, 0), (15, .istore_n 2, 1, 0, 0, 0, 0)],
  [(16, .iconst 0, 1, 0, 0, 0, 0), (17, .istore_n 3, 1, 0, 0, 0, 0), (18, .iload_n 3, 1, 0, 0, 0, 0), (19, .iload_n 2, 1, 0, 0, 0, 0), (20, .if_icmp .ge 13, 3, 0, 0, 0, 0), (23, .aload_n 0, 1, 0, 0, 0, 0), (24, .invokevirtual 319, 3, 213, 1, 14, 0), (27, .iinc 3 1, 3, 0, 0, 0, 0), (30, .goto (-12), 3, 0, 0, 0, 0)],
  [(33, .iload_n 2, 1, 0, 0, 0, 0), (34, .ireturn, 1, 0, 0, 0, 0)]]
/-- LostKeysModel.passDays(I)I -/
def rx_m217 : rx_Md := (yX10_passDays, cX10_passDays, 4, (some .int), 2, 1, 0, 0, rx_t217)
def rx_t218 : List (List rx_E) := [
  [(0, .aload_n 0, 1, 0, 0, 0, 0), (1, .iconst 0, 1, 0, 0, 0, 0), (2, .putfield 1, 3, 10, 0, 0, 0), (5, .aload_n 0, 1, 0, 0, 0, 0), (6, .iload_n 1, 1, 0, 0, 0, 0), (7, .invokevirtual 275, 3, 181, 2, 14, 0), (10, .ifCond .eq 22, 3, 0, 0, 0, 0), (13, .aload_n 0, 1, 0, 0, 0, 0), (14, .iload_n 2, 1, 0, 0, 0, 0), (15, .invokevirtual 260, 3, 178, 2, 14, 0)],
  [(18, .ifCond .eq 14, 3, 0, 0, 0, 0), (21, .aload_n 0, 1, 0, 0, 0, 0), (22, .iconst 1, 1, 0, 0, 0, 0), (23, .iload_n 1, 1, 0, 0, 0, 0), (24, .iload_n 2, 1, 0, 0, 0, 0), (25, .iconst 0, 1, 0, 0, 0, 0), (26, .invokevirtual 301, 3, 142, 5, 14, 0), (29, .goto 4, 3, 0, 0, 0, 0)],
  [(32, .iconst (-1), 1, 0, 0, 0, 0), (33, .ireturn, 1, 0, 0, 0, 0)]]
/-- LostKeysModel.pick(II)I -/
def rx_m218 : rx_Md := (yX10_pick, cX10_pick, 3, (some .int), 3, 1, 0, 0, rx_t218)
def rx_t219 : List (List rx_E) := [
  [(0, .iload_n 2, 1, 0, 0, 0, 0), (1, .ifCond .eq 13, 3, 0, 0, 0, 0), (4, .aload_n 0, 1, 0, 0, 0, 0), (5, .getfield 101, 3, 10, 15, 4, 0), (8, .iload_n 1, 1, 0, 0, 0, 0), (9, .aload_n 0, 1, 0, 0, 0, 0), (10, .getfield 79, 3, 10, 13, 0, 0), (13, .iastore, 1, 0, 0, 0, 0), (14, .iload_n 2, 1, 0, 0, 0, 0), (15, .ireturn, 1, 0, 0, 0, 0)]]
/-- LostKeysModel.put(IZ)Z -/
def rx_m219 : rx_Md := (yX10_put, cX10_put, 3, (some .boolean), 3, 1, 0, 0, rx_t219)
def rx_t220 : List (List rx_E) := [
  [(0, .aload_n 0, 1, 0, 0, 0, 0), (1, .invokevirtual 437, 3, 241, 1, 14, 0), (4, .ifCond .ne 5, 3, 0, 0, 0, 0), (7, .iconst 0, 1, 0, 0, 0, 0), (8, .ireturn, 1, 0, 0, 0, 0), (9, .aload_n 0, 1, 0, 0, 0, 0), (10, .getfield 431, 3, 10, 49, 0, 0), (13, .istore_n 1, 1, 0, 0, 0, 0), (14, .aload_n 0, 1, 0, 0, 0, 0), (15, .bipush 13, 2, 0, 0, 0, 0)],
  [(17, .invokevirtual 209, 3, 188, 2, 14, 0), (20, .ifCond .eq 31, 3, 0, 0, 0, 0), (23, .aload_n 0, 1, 0, 0, 0, 0), (24, .invokevirtual 82, 3, 167, 1, 14, 0), (27, .aload_n 0, 1, 0, 0, 0, 0), (28, .invokevirtual 437, 3, 241, 1, 14, 0), (31, .ifCond .ne 5, 3, 0, 0, 0, 0)],
  [(34, .iconst 0, 1, 0, 0, 0, 0), (35, .ireturn, 1, 0, 0, 0, 0), (36, .aload_n 0, 1, 0, 0, 0, 0), (37, .iconst 2, 1, 0, 0, 0, 0), (38, .iload_n 1, 1, 0, 0, 0, 0), (39, .aload_n 0, 1, 0, 0, 0, 0), (40, .getfield 431, 3, 10, 49, 0, 0), (43, .iconst 0, 1, 0, 0, 0, 0), (44, .invokevirtual 434, 3, 245, 5, 14, 0), (47, .istore_n 1, 1, 0, 0, 0, 0)],
  [(48, .goto (-34), 3, 0, 0, 0, 0), (51, .aload_n 0, 1, 0, 0, 0, 0), (52, .iload_n 1, 1, 0, 0, 0, 0), (53, .putfield 431, 3, 10, 49, 0, 0), (56, .iconst 1, 1, 0, 0, 0, 0), (57, .ireturn, 1, 0, 0, 0, 0)]]
/-- LostKeysModel.readAnd()Z -/
def rx_m220 : rx_Md := (yX10_readAnd, cX10_readAnd, 2, (some .boolean), 1, 1, 0, 0, rx_t220)
def rx_t221 : List (List rx_E) := [
  [(0, .aload_n 0, 1, 0, 0, 0, 0), (1, .bipush 11, 2, 0, 0, 0, 0), (3, .invokevirtual 209, 3, 188, 2, 14, 0), (6, .istore_n 1, 1, 0, 0, 0, 0), (7, .iload_n 1, 1, 0, 0, 0, 0), (8, .ifCond .ne 45, 3, 0, 0, 0, 0), (11, .aload_n 0, 1, 0, 0, 0, 0), (12, .invokevirtual 179, 3, 183, 1, 14, 0), (15, .ifCond .ne 9, 3, 0, 0, 0, 0)],
  [(18, .aload_n 0, 1, 0, 0, 0, 0), (19, .iconst 1, 1, 0, 0, 0, 0), (20, .invokevirtual 72, 3, 144, 2, 14, 0), (23, .ireturn, 1, 0, 0, 0, 0), (24, .aload_n 0, 1, 0, 0, 0, 0), (25, .getfield 113, 3, 10, 19, 4, 0), (28, .bipush 12, 2, 0, 0, 0, 0), (30, .aload_n 0, 1, 0, 0, 0, 0), (31, .getfield 98, 3, 10, 14, 4, 0)],
  [(34, .iconst 2, 1, 0, 0, 0, 0), (35, .iaload, 1, 0, 0, 0, 0), (36, .aload_n 0, 1, 0, 0, 0, 0), (37, .getfield 43, 3, 10, 12, 3, 0), (40, .invokestatic 175, 3, 162, 4, 0, 0), (43, .iconst (-1), 1, 0, 0, 0, 0), (44, .if_icmp .ne 9, 3, 0, 0, 0, 0), (47, .aload_n 0, 1, 0, 0, 0, 0)],
  [(48, .iconst 3, 1, 0, 0, 0, 0), (49, .invokevirtual 72, 3, 144, 2, 14, 0), (52, .ireturn, 1, 0, 0, 0, 0), (53, .aload_n 0, 1, 0, 0, 0, 0), (54, .getfield 406, 3, 10, 43, 0, 0), (57, .bipush 40, 2, 0, 0, 0, 0), (59, .if_icmp .ne 9, 3, 0, 0, 0, 0), (62, .aload_n 0, 1, 0, 0, 0, 0), (63, .iconst 4, 1, 0, 0, 0, 0)],
  [(64, .invokevirtual 72, 3, 144, 2, 14, 0), (67, .ireturn, 1, 0, 0, 0, 0), (68, .iconst 4, 1, 0, 0, 0, 0), (69, .aload_n 0, 1, 0, 0, 0, 0), (70, .getfield 406, 3, 10, 43, 0, 0), (73, .imul, 1, 0, 0, 0, 0), (74, .istore_n 2, 1, 0, 0, 0, 0), (75, .aload_n 0, 1, 0, 0, 0, 0), (76, .getfield 163, 3, 10, 41, 4, 0), (79, .iload_n 2, 1, 0, 0, 0, 0)],
  [(80, .iconst 4, 1, 0, 0, 0, 0), (81, .iastore, 1, 0, 0, 0, 0), (82, .aload_n 0, 1, 0, 0, 0, 0), (83, .getfield 163, 3, 10, 41, 4, 0), (86, .iload_n 2, 1, 0, 0, 0, 0), (87, .iconst 1, 1, 0, 0, 0, 0), (88, .iadd, 1, 0, 0, 0, 0), (89, .iload_n 1, 1, 0, 0, 0, 0), (90, .ifCond .eq 7, 3, 0, 0, 0, 0), (93, .iconst 0, 1, 0, 0, 0, 0), (94, .goto 22, 3, 0, 0, 0, 0)],
  [(97, .aload_n 0, 1, 0, 0, 0, 0), (98, .getfield 113, 3, 10, 19, 4, 0), (101, .bipush 12, 2, 0, 0, 0, 0), (103, .aload_n 0, 1, 0, 0, 0, 0), (104, .getfield 98, 3, 10, 14, 4, 0), (107, .iconst 2, 1, 0, 0, 0, 0), (108, .iaload, 1, 0, 0, 0, 0), (109, .aload_n 0, 1, 0, 0, 0, 0), (110, .getfield 43, 3, 10, 12, 3, 0)],
  [(113, .invokestatic 175, 3, 162, 4, 0, 0), (116, .iastore, 1, 0, 0, 0, 0), (117, .aload_n 0, 1, 0, 0, 0, 0), (118, .getfield 163, 3, 10, 41, 4, 0), (121, .iload_n 2, 1, 0, 0, 0, 0), (122, .iconst 3, 1, 0, 0, 0, 0), (123, .iadd, 1, 0, 0, 0, 0), (124, .iconst 0, 1, 0, 0, 0, 0), (125, .iastore, 1, 0, 0, 0, 0), (126, .aload_n 0, 1, 0, 0, 0, 0), (127, .invokevirtual 82, 3, 167, 1, 14, 0)],
  [(130, .iload_n 1, 1, 0, 0, 0, 0), (131, .ifCond .eq 23, 3, 0, 0, 0, 0), (134, .aload_n 0, 1, 0, 0, 0, 0), (135, .iload_n 2, 1, 0, 0, 0, 0), (136, .iconst 2, 1, 0, 0, 0, 0), (137, .iadd, 1, 0, 0, 0, 0), (138, .aload_n 0, 1, 0, 0, 0, 0), (139, .iconst 1, 1, 0, 0, 0, 0), (140, .bipush 60, 2, 0, 0, 0, 0), (142, .invokevirtual 189, 3, 237, 3, 14, 0)],
  [(145, .invokevirtual 403, 3, 189, 3, 14, 0), (148, .ifCond .eq 25, 3, 0, 0, 0, 0), (151, .goto 11, 3, 0, 0, 0, 0), (154, .aload_n 0, 1, 0, 0, 0, 0), (155, .iload_n 2, 1, 0, 0, 0, 0), (156, .invokevirtual 409, 3, 225, 2, 14, 0), (159, .ifCond .eq 14, 3, 0, 0, 0, 0)],
  [(162, .aload_n 0, 1, 0, 0, 0, 0), (163, .invokevirtual 233, 3, 226, 1, 14, 0), (166, .ifCond .eq 7, 3, 0, 0, 0, 0), (169, .iconst 1, 1, 0, 0, 0, 0), (170, .goto 4, 3, 0, 0, 0, 0), (173, .iconst 0, 1, 0, 0, 0, 0), (174, .ireturn, 1, 0, 0, 0, 0)]]
/-- LostKeysModel.readBookLine()Z -/
def rx_m221 : rx_Md := (yX10_readBookLine, cX10_readBookLine, 3, (some .boolean), 1, 1, 0, 0, rx_t221)
def rx_t222 : List (List rx_E) := [
  [(0, .aload_n 0, 1, 0, 0, 0, 0), (1, .invokevirtual 458, 3, 239, 1, 14, 0), (4, .ifCond .ne 5, 3, 0, 0, 0, 0), (7, .iconst 0, 1, 0, 0, 0, 0), (8, .ireturn, 1, 0, 0, 0, 0), (9, .aload_n 0, 1, 0, 0, 0, 0), (10, .bipush 41, 2, 0, 0, 0, 0), (12, .invokevirtual 86, 3, 186, 2, 14, 0), (15, .ifCond .ne 9, 3, 0, 0, 0, 0)],
  [(18, .aload_n 0, 1, 0, 0, 0, 0), (19, .iconst 1, 1, 0, 0, 0, 0), (20, .invokevirtual 72, 3, 144, 2, 14, 0), (23, .ireturn, 1, 0, 0, 0, 0), (24, .aload_n 0, 1, 0, 0, 0, 0), (25, .invokevirtual 82, 3, 167, 1, 14, 0), (28, .iconst 1, 1, 0, 0, 0, 0), (29, .ireturn, 1, 0, 0, 0, 0)]]
/-- LostKeysModel.readBracket()Z -/
def rx_m222 : rx_Md := (yX10_readBracket, cX10_readBracket, 1, (some .boolean), 1, 1, 0, 0, rx_t222)
def rx_t223 : List (List rx_E) := [
  [(0, .aload_n 0, 1, 0, 0, 0, 0), (1, .iload_n 1, 1, 0, 0, 0, 0), (2, .aload_n 0, 1, 0, 0, 0, 0), (3, .iconst 0, 1, 0, 0, 0, 0), (4, .aload_n 0, 1, 0, 0, 0, 0), (5, .getfield 101, 3, 10, 15, 4, 0), (8, .iconst 4, 1, 0, 0, 0, 0), (9, .iaload, 1, 0, 0, 0, 0), (10, .iconst 1, 1, 0, 0, 0, 0), (11, .isub, 1, 0, 0, 0, 0), (12, .invokevirtual 189, 3, 237, 3, 14, 0), (15, .invokevirtual 193, 3, 219, 3, 14, 0)],
  [(18, .ifCond .eq 28, 3, 0, 0, 0, 0), (21, .aload_n 0, 1, 0, 0, 0, 0), (22, .iload_n 2, 1, 0, 0, 0, 0), (23, .aload_n 0, 1, 0, 0, 0, 0), (24, .iconst 0, 1, 0, 0, 0, 0), (25, .aload_n 0, 1, 0, 0, 0, 0), (26, .getfield 101, 3, 10, 15, 4, 0), (29, .iconst 5, 1, 0, 0, 0, 0), (30, .iaload, 1, 0, 0, 0, 0), (31, .iconst 1, 1, 0, 0, 0, 0)],
  [(32, .isub, 1, 0, 0, 0, 0), (33, .invokevirtual 189, 3, 237, 3, 14, 0), (36, .invokevirtual 193, 3, 219, 3, 14, 0), (39, .ifCond .eq 7, 3, 0, 0, 0, 0), (42, .iconst 1, 1, 0, 0, 0, 0), (43, .goto 4, 3, 0, 0, 0, 0), (46, .iconst 0, 1, 0, 0, 0, 0), (47, .ireturn, 1, 0, 0, 0, 0)]]
/-- LostKeysModel.readCell(II)Z -/
def rx_m223 : rx_Md := (yX10_readCell, cX10_readCell, 3, (some .boolean), 3, 1, 0, 0, rx_t223)
def rx_t224 : List (List rx_E) := [
  [(0, .aload_n 0, 1, 0, 0, 0, 0), (1, .bipush 60, 2, 0, 0, 0, 0), (3, .invokevirtual 86, 3, 186, 2, 14, 0), (6, .ifCond .ne 27, 3, 0, 0, 0, 0), (9, .aload_n 0, 1, 0, 0, 0, 0), (10, .bipush 61, 2, 0, 0, 0, 0), (12, .invokevirtual 86, 3, 186, 2, 14, 0), (15, .ifCond .ne 18, 3, 0, 0, 0, 0)],
  [(18, .aload_n 0, 1, 0, 0, 0, 0), (19, .bipush 62, 2, 0, 0, 0, 0), (21, .invokevirtual 86, 3, 186, 2, 14, 0), (24, .ifCond .ne 9, 3, 0, 0, 0, 0), (27, .aload_n 0, 1, 0, 0, 0, 0), (28, .iconst 1, 1, 0, 0, 0, 0), (29, .invokevirtual 72, 3, 144, 2, 14, 0)],
  [(32, .ireturn, 1, 0, 0, 0, 0), (33, .aload_n 0, 1, 0, 0, 0, 0), (34, .getfield 40, 3, 10, 9, 0, 0), (37, .istore_n 2, 1, 0, 0, 0, 0), (38, .aload_n 0, 1, 0, 0, 0, 0), (39, .invokevirtual 82, 3, 167, 1, 14, 0), (42, .aload_n 0, 1, 0, 0, 0, 0), (43, .iconst 0, 1, 0, 0, 0, 0), (44, .sipush 999, 3, 0, 0, 0, 0), (47, .invokevirtual 189, 3, 237, 3, 14, 0)],
  [(50, .ifCond .ne 5, 3, 0, 0, 0, 0), (53, .iconst 0, 1, 0, 0, 0, 0), (54, .ireturn, 1, 0, 0, 0, 0), (55, .aload_n 0, 1, 0, 0, 0, 0), (56, .aload_n 0, 1, 0, 0, 0, 0), (57, .bipush 50, 2, 0, 0, 0, 0), (59, .iload_n 1, 1, 0, 0, 0, 0), (60, .iadd, 1, 0, 0, 0, 0), (61, .iconst 0, 1, 0, 0, 0, 0), (62, .aload_n 0, 1, 0, 0, 0, 0), (63, .getfield 79, 3, 10, 13, 0, 0)],
  [(66, .iload_n 2, 1, 0, 0, 0, 0), (67, .invokevirtual 434, 3, 245, 5, 14, 0), (70, .putfield 431, 3, 10, 49, 0, 0), (73, .iconst 1, 1, 0, 0, 0, 0), (74, .ireturn, 1, 0, 0, 0, 0)]]
/-- LostKeysModel.readCompare(I)Z -/
def rx_m224 : rx_Md := (yX10_readCompare, cX10_readCompare, 3, (some .boolean), 2, 1, 0, 0, rx_t224)
def rx_t225 : List (List rx_E) := [
  [(0, .bipush 7, 2, 0, 0, 0, 0), (2, .istore_n 2, 1, 0, 0, 0, 0), (3, .iload_n 2, 1, 0, 0, 0, 0), (4, .bipush 10, 2, 0, 0, 0, 0), (6, .if_icmp .gt 17, 3, 0, 0, 0, 0), (9, .aload_n 0, 1, 0, 0, 0, 0), (10, .iload_n 2, 1, 0, 0, 0, 0), (11, .invokevirtual 209, 3, 188, 2, 14, 0), (14, .ifCond .ne 9, 3, 0, 0, 0, 0)],
  [(17, .iinc 2 1, 3, 0, 0, 0, 0), (20, .goto (-17), 3, 0, 0, 0, 0), (23, .iload_n 2, 1, 0, 0, 0, 0), (24, .bipush 10, 2, 0, 0, 0, 0), (26, .if_icmp .le 9, 3, 0, 0, 0, 0), (29, .aload_n 0, 1, 0, 0, 0, 0), (30, .iconst 1, 1, 0, 0, 0, 0), (31, .invokevirtual 72, 3, 144, 2, 14, 0)],
  [(34, .ireturn, 1, 0, 0, 0, 0), (35, .aload_n 0, 1, 0, 0, 0, 0), (36, .getfield 163, 3, 10, 41, 4, 0), (39, .iload_n 1, 1, 0, 0, 0, 0), (40, .iload_n 2, 1, 0, 0, 0, 0), (41, .bipush 7, 2, 0, 0, 0, 0), (43, .isub, 1, 0, 0, 0, 0), (44, .iastore, 1, 0, 0, 0, 0), (45, .aload_n 0, 1, 0, 0, 0, 0), (46, .invokevirtual 82, 3, 167, 1, 14, 0)],
  [(49, .aload_n 0, 1, 0, 0, 0, 0), (50, .getfield 163, 3, 10, 41, 4, 0), (53, .iload_n 1, 1, 0, 0, 0, 0), (54, .iaload, 1, 0, 0, 0, 0), (55, .tableswitch 79 0 2 #[25, 25, 37], 25, 0, 0, 0, 0)],
  [],
  [(80, .aload_n 0, 1, 0, 0, 0, 0), (81, .iload_n 1, 1, 0, 0, 0, 0), (82, .iconst 2, 1, 0, 0, 0, 0), (83, .iadd, 1, 0, 0, 0, 0), (84, .aload_n 0, 1, 0, 0, 0, 0), (85, .invokevirtual 400, 3, 230, 1, 14, 0), (88, .invokevirtual 403, 3, 189, 3, 14, 0), (91, .ireturn, 1, 0, 0, 0, 0), (92, .aload_n 0, 1, 0, 0, 0, 0), (93, .iload_n 1, 1, 0, 0, 0, 0), (94, .iconst 2, 1, 0, 0, 0, 0), (95, .iadd, 1, 0, 0, 0, 0)],
  [(96, .aload_n 0, 1, 0, 0, 0, 0), (97, .invokevirtual 400, 3, 230, 1, 14, 0), (100, .invokevirtual 403, 3, 189, 3, 14, 0), (103, .ifCond .eq 29, 3, 0, 0, 0, 0), (106, .aload_n 0, 1, 0, 0, 0, 0), (107, .iload_n 1, 1, 0, 0, 0, 0), (108, .iconst 3, 1, 0, 0, 0, 0), (109, .iadd, 1, 0, 0, 0, 0), (110, .aload_n 0, 1, 0, 0, 0, 0), (111, .bipush 6, 2, 0, 0, 0, 0)],
  [(113, .aload_n 0, 1, 0, 0, 0, 0), (114, .getfield 98, 3, 10, 14, 4, 0), (117, .iconst 1, 1, 0, 0, 0, 0), (118, .iaload, 1, 0, 0, 0, 0), (119, .invokevirtual 397, 3, 234, 3, 14, 0), (122, .invokevirtual 403, 3, 189, 3, 14, 0), (125, .ifCond .eq 7, 3, 0, 0, 0, 0)],
  [(128, .iconst 1, 1, 0, 0, 0, 0), (129, .goto 4, 3, 0, 0, 0, 0), (132, .iconst 0, 1, 0, 0, 0, 0), (133, .ireturn, 1, 0, 0, 0, 0), (134, .aload_n 0, 1, 0, 0, 0, 0), (135, .iload_n 1, 1, 0, 0, 0, 0), (136, .iconst 2, 1, 0, 0, 0, 0), (137, .iadd, 1, 0, 0, 0, 0), (138, .aload_n 0, 1, 0, 0, 0, 0), (139, .iconst 0, 1, 0, 0, 0, 0), (140, .iconst 5, 1, 0, 0, 0, 0), (141, .invokevirtual 189, 3, 237, 3, 14, 0)],
  [(144, .invokevirtual 403, 3, 189, 3, 14, 0), (147, .ifCond .eq 23, 3, 0, 0, 0, 0), (150, .aload_n 0, 1, 0, 0, 0, 0), (151, .iload_n 1, 1, 0, 0, 0, 0), (152, .iconst 3, 1, 0, 0, 0, 0), (153, .iadd, 1, 0, 0, 0, 0), (154, .aload_n 0, 1, 0, 0, 0, 0), (155, .iconst 0, 1, 0, 0, 0, 0), (156, .iconst 5, 1, 0, 0, 0, 0), (157, .invokevirtual 189, 3, 237, 3, 14, 0)],
  [(160, .invokevirtual 403, 3, 189, 3, 14, 0), (163, .ifCond .eq 7, 3, 0, 0, 0, 0), (166, .iconst 1, 1, 0, 0, 0, 0), (167, .goto 4, 3, 0, 0, 0, 0), (170, .iconst 0, 1, 0, 0, 0, 0), (171, .ireturn, 1, 0, 0, 0, 0)]]
/-- LostKeysModel.readDoes(I)Z -/
def rx_m225 : rx_Md := (yX10_readDoes, cX10_readDoes, 3, (some .boolean), 2, 1, 0, 0, rx_t225)
def rx_t226 : List (List rx_E) := [
  [(0, .aload_n 0, 1, 0, 0, 0, 0), (1, .bipush 59, 2, 0, 0, 0, 0), (3, .invokevirtual 86, 3, 186, 2, 14, 0), (6, .ifCond .ne 9, 3, 0, 0, 0, 0), (9, .aload_n 0, 1, 0, 0, 0, 0), (10, .iconst 1, 1, 0, 0, 0, 0), (11, .invokevirtual 72, 3, 144, 2, 14, 0), (14, .ireturn, 1, 0, 0, 0, 0), (15, .aload_n 0, 1, 0, 0, 0, 0)],
  [(16, .invokevirtual 82, 3, 167, 1, 14, 0), (19, .iconst 1, 1, 0, 0, 0, 0), (20, .ireturn, 1, 0, 0, 0, 0)]]
/-- LostKeysModel.readEnd()Z -/
def rx_m226 : rx_Md := (yX10_readEnd, cX10_readEnd, 1, (some .boolean), 1, 1, 0, 0, rx_t226)
def rx_t227 : List (List rx_E) := [
  [(0, .aload_n 0, 1, 0, 0, 0, 0), (1, .getfield 101, 3, 10, 15, 4, 0), (4, .iconst 1, 1, 0, 0, 0, 0), (5, .iaload, 1, 0, 0, 0, 0), (6, .aload_n 0, 1, 0, 0, 0, 0), (7, .getfield 101, 3, 10, 15, 4, 0), (10, .iconst 2, 1, 0, 0, 0, 0), (11, .iaload, 1, 0, 0, 0, 0), (12, .iadd, 1, 0, 0, 0, 0), (13, .ifCond .le 9, 3, 0, 0, 0, 0)],
  [(16, .aload_n 0, 1, 0, 0, 0, 0), (17, .iconst 3, 1, 0, 0, 0, 0), (18, .invokevirtual 72, 3, 144, 2, 14, 0), (21, .ireturn, 1, 0, 0, 0, 0), (22, .aload_n 0, 1, 0, 0, 0, 0), (23, .iconst 0, 1, 0, 0, 0, 0), (24, .invokevirtual 186, 3, 175, 2, 14, 0), (27, .ifCond .eq 37, 3, 0, 0, 0, 0), (30, .aload_n 0, 1, 0, 0, 0, 0), (31, .iconst 4, 1, 0, 0, 0, 0)],
  [(32, .aload_n 0, 1, 0, 0, 0, 0), (33, .iconst 2, 1, 0, 0, 0, 0), (34, .bipush 6, 2, 0, 0, 0, 0), (36, .invokevirtual 189, 3, 237, 3, 14, 0), (39, .invokevirtual 193, 3, 219, 3, 14, 0), (42, .ifCond .eq 22, 3, 0, 0, 0, 0), (45, .aload_n 0, 1, 0, 0, 0, 0), (46, .iconst 5, 1, 0, 0, 0, 0), (47, .aload_n 0, 1, 0, 0, 0, 0)],
  [(48, .iconst 2, 1, 0, 0, 0, 0), (49, .bipush 6, 2, 0, 0, 0, 0), (51, .invokevirtual 189, 3, 237, 3, 14, 0), (54, .invokevirtual 193, 3, 219, 3, 14, 0), (57, .ifCond .eq 7, 3, 0, 0, 0, 0), (60, .iconst 1, 1, 0, 0, 0, 0), (61, .goto 4, 3, 0, 0, 0, 0)],
  [(64, .iconst 0, 1, 0, 0, 0, 0), (65, .ireturn, 1, 0, 0, 0, 0)]]
/-- LostKeysModel.readField()Z -/
def rx_m227 : rx_Md := (yX10_readField, cX10_readField, 1, (some .boolean), 1, 1, 0, 0, rx_t227)
def rx_t228 : List (List rx_E) := [
  [(0, .aload_n 0, 1, 0, 0, 0, 0), (1, .getfield 101, 3, 10, 15, 4, 0), (4, .iload_n 1, 1, 0, 0, 0, 0), (5, .iaload, 1, 0, 0, 0, 0), (6, .iload_n 2, 1, 0, 0, 0, 0), (7, .if_icmp .ne 9, 3, 0, 0, 0, 0), (10, .aload_n 0, 1, 0, 0, 0, 0), (11, .iconst 4, 1, 0, 0, 0, 0), (12, .invokevirtual 72, 3, 144, 2, 14, 0), (15, .ireturn, 1, 0, 0, 0, 0)],
  [(16, .aload_n 0, 1, 0, 0, 0, 0), (17, .invokevirtual 82, 3, 167, 1, 14, 0), (20, .iconst 1, 1, 0, 0, 0, 0), (21, .ireturn, 1, 0, 0, 0, 0)]]
/-- LostKeysModel.readFirst(II)Z -/
def rx_m228 : rx_Md := (yX10_readFirst, cX10_readFirst, 3, (some .boolean), 3, 1, 0, 0, rx_t228)
def rx_t229 : List (List rx_E) := [
  [(0, .aload_n 0, 1, 0, 0, 0, 0), (1, .iconst 3, 1, 0, 0, 0, 0), (2, .bipush 8, 2, 0, 0, 0, 0), (4, .invokevirtual 197, 3, 228, 3, 14, 0), (7, .ifCond .ne 5, 3, 0, 0, 0, 0), (10, .iconst 0, 1, 0, 0, 0, 0), (11, .ireturn, 1, 0, 0, 0, 0), (12, .aload_n 0, 1, 0, 0, 0, 0), (13, .getfield 101, 3, 10, 15, 4, 0)],
  [(16, .iconst 3, 1, 0, 0, 0, 0), (17, .iaload, 1, 0, 0, 0, 0), (18, .istore_n 1, 1, 0, 0, 0, 0), (19, .aload_n 0, 1, 0, 0, 0, 0), (20, .bipush 17, 2, 0, 0, 0, 0), (22, .iload_n 1, 1, 0, 0, 0, 0), (23, .iadd, 1, 0, 0, 0, 0), (24, .invokevirtual 200, 3, 235, 2, 14, 0), (27, .ifCond .eq 26, 3, 0, 0, 0, 0), (30, .aload_n 0, 1, 0, 0, 0, 0), (31, .bipush 48, 2, 0, 0, 0, 0)],
  [(33, .iload_n 1, 1, 0, 0, 0, 0), (34, .iadd, 1, 0, 0, 0, 0), (35, .aload_n 0, 1, 0, 0, 0, 0), (36, .bipush 12, 2, 0, 0, 0, 0), (38, .aload_n 0, 1, 0, 0, 0, 0), (39, .getfield 101, 3, 10, 15, 4, 0), (42, .iconst 2, 1, 0, 0, 0, 0), (43, .iaload, 1, 0, 0, 0, 0), (44, .invokevirtual 203, 3, 184, 3, 14, 0), (47, .invokevirtual 193, 3, 219, 3, 14, 0)],
  [(50, .ifCond .ne 5, 3, 0, 0, 0, 0), (53, .iconst 0, 1, 0, 0, 0, 0), (54, .ireturn, 1, 0, 0, 0, 0), (55, .aload_n 0, 1, 0, 0, 0, 0), (56, .invokevirtual 82, 3, 167, 1, 14, 0), (59, .aload_n 0, 1, 0, 0, 0, 0), (60, .bipush 56, 2, 0, 0, 0, 0), (62, .iload_n 1, 1, 0, 0, 0, 0), (63, .iadd, 1, 0, 0, 0, 0)],
  [(64, .aload_n 0, 1, 0, 0, 0, 0), (65, .iconst 0, 1, 0, 0, 0, 0), (66, .bipush 63, 2, 0, 0, 0, 0), (68, .invokevirtual 189, 3, 237, 3, 14, 0), (71, .invokevirtual 193, 3, 219, 3, 14, 0), (74, .ifCond .ne 5, 3, 0, 0, 0, 0), (77, .iconst 0, 1, 0, 0, 0, 0), (78, .ireturn, 1, 0, 0, 0, 0), (79, .aload_n 0, 1, 0, 0, 0, 0)],
  [(80, .getfield 101, 3, 10, 15, 4, 0), (83, .iconst 3, 1, 0, 0, 0, 0), (84, .dup2, 1, 0, 0, 0, 0), (85, .iaload, 1, 0, 0, 0, 0), (86, .iconst 1, 1, 0, 0, 0, 0), (87, .iadd, 1, 0, 0, 0, 0), (88, .iastore, 1, 0, 0, 0, 0), (89, .iconst 1, 1, 0, 0, 0, 0), (90, .ireturn, 1, 0, 0, 0, 0)]]
/-- LostKeysModel.readKey()Z -/
def rx_m229 : rx_Md := (yX10_readKey, cX10_readKey, 2, (some .boolean), 1, 1, 0, 0, rx_t229)
def rx_t230 : List (List rx_E) := [
  [(0, .aload_n 0, 1, 0, 0, 0, 0), (1, .bipush 17, 2, 0, 0, 0, 0), (3, .aload_n 0, 1, 0, 0, 0, 0), (4, .getfield 98, 3, 10, 14, 4, 0), (7, .iconst 3, 1, 0, 0, 0, 0), (8, .iaload, 1, 0, 0, 0, 0), (9, .invokevirtual 397, 3, 234, 3, 14, 0), (12, .ireturn, 1, 0, 0, 0, 0)]]
/-- LostKeysModel.readKeyName()Z -/
def rx_m230 : rx_Md := (yX10_readKeyName, cX10_readKeyName, 1, (some .boolean), 1, 1, 0, 0, rx_t230)
def rx_t231 : List (List rx_E) := [
  [(0, .aload_n 0, 1, 0, 0, 0, 0), (1, .iconst 0, 1, 0, 0, 0, 0), (2, .invokevirtual 209, 3, 188, 2, 14, 0), (5, .ifCond .eq 8, 3, 0, 0, 0, 0), (8, .aload_n 0, 1, 0, 0, 0, 0), (9, .invokevirtual 212, 3, 227, 1, 14, 0), (12, .ireturn, 1, 0, 0, 0, 0), (13, .aload_n 0, 1, 0, 0, 0, 0), (14, .iconst 1, 1, 0, 0, 0, 0), (15, .invokevirtual 209, 3, 188, 2, 14, 0)],
  [(18, .ifCond .eq 8, 3, 0, 0, 0, 0), (21, .aload_n 0, 1, 0, 0, 0, 0), (22, .invokevirtual 215, 3, 240, 1, 14, 0), (25, .ireturn, 1, 0, 0, 0, 0), (26, .aload_n 0, 1, 0, 0, 0, 0), (27, .iconst 2, 1, 0, 0, 0, 0), (28, .invokevirtual 209, 3, 188, 2, 14, 0), (31, .ifCond .eq 8, 3, 0, 0, 0, 0)],
  [(34, .aload_n 0, 1, 0, 0, 0, 0), (35, .invokevirtual 218, 3, 232, 1, 14, 0), (38, .ireturn, 1, 0, 0, 0, 0), (39, .aload_n 0, 1, 0, 0, 0, 0), (40, .iconst 4, 1, 0, 0, 0, 0), (41, .invokevirtual 209, 3, 188, 2, 14, 0), (44, .ifCond .eq 8, 3, 0, 0, 0, 0), (47, .aload_n 0, 1, 0, 0, 0, 0)],
  [(48, .invokevirtual 221, 3, 233, 1, 14, 0), (51, .ireturn, 1, 0, 0, 0, 0), (52, .aload_n 0, 1, 0, 0, 0, 0), (53, .iconst 5, 1, 0, 0, 0, 0), (54, .invokevirtual 209, 3, 188, 2, 14, 0), (57, .ifCond .eq 8, 3, 0, 0, 0, 0), (60, .aload_n 0, 1, 0, 0, 0, 0), (61, .invokevirtual 224, 3, 229, 1, 14, 0)],
  [(64, .ireturn, 1, 0, 0, 0, 0), (65, .aload_n 0, 1, 0, 0, 0, 0), (66, .bipush 6, 2, 0, 0, 0, 0), (68, .invokevirtual 209, 3, 188, 2, 14, 0), (71, .ifCond .eq 35, 3, 0, 0, 0, 0), (74, .aload_n 0, 1, 0, 0, 0, 0), (75, .iconst 1, 1, 0, 0, 0, 0), (76, .invokevirtual 186, 3, 175, 2, 14, 0), (79, .ifCond .eq 23, 3, 0, 0, 0, 0)],
  [(82, .aload_n 0, 1, 0, 0, 0, 0), (83, .bipush 6, 2, 0, 0, 0, 0), (85, .aload_n 0, 1, 0, 0, 0, 0), (86, .iconst 1, 1, 0, 0, 0, 0), (87, .bipush 9, 2, 0, 0, 0, 0), (89, .invokevirtual 189, 3, 237, 3, 14, 0), (92, .invokevirtual 193, 3, 219, 3, 14, 0), (95, .ifCond .eq 7, 3, 0, 0, 0, 0)],
  [(98, .iconst 1, 1, 0, 0, 0, 0), (99, .goto 12, 3, 0, 0, 0, 0), (102, .iconst 0, 1, 0, 0, 0, 0), (103, .goto 8, 3, 0, 0, 0, 0), (106, .aload_n 0, 1, 0, 0, 0, 0), (107, .iconst 1, 1, 0, 0, 0, 0), (108, .invokevirtual 72, 3, 144, 2, 14, 0), (111, .ireturn, 1, 0, 0, 0, 0)]]
/-- LostKeysModel.readLine()Z -/
def rx_m231 : rx_Md := (yX10_readLine, cX10_readLine, 1, (some .boolean), 1, 1, 0, 0, rx_t231)
def rx_t232 : List (List rx_E) := [
  [(0, .aload_n 0, 1, 0, 0, 0, 0), (1, .iconst 1, 1, 0, 0, 0, 0), (2, .bipush 6, 2, 0, 0, 0, 0), (4, .invokevirtual 197, 3, 228, 3, 14, 0), (7, .ifCond .ne 5, 3, 0, 0, 0, 0), (10, .iconst 0, 1, 0, 0, 0, 0), (11, .ireturn, 1, 0, 0, 0, 0), (12, .aload_n 0, 1, 0, 0, 0, 0), (13, .getfield 101, 3, 10, 15, 4, 0)],
  [(16, .iconst 1, 1, 0, 0, 0, 0), (17, .iaload, 1, 0, 0, 0, 0), (18, .istore_n 1, 1, 0, 0, 0, 0), (19, .aload_n 0, 1, 0, 0, 0, 0), (20, .bipush 6, 2, 0, 0, 0, 0), (22, .iload_n 1, 1, 0, 0, 0, 0), (23, .iadd, 1, 0, 0, 0, 0), (24, .invokevirtual 200, 3, 235, 2, 14, 0), (27, .ifCond .eq 25, 3, 0, 0, 0, 0), (30, .aload_n 0, 1, 0, 0, 0, 0), (31, .bipush 7, 2, 0, 0, 0, 0)],
  [(33, .iload_n 1, 1, 0, 0, 0, 0), (34, .iadd, 1, 0, 0, 0, 0), (35, .aload_n 0, 1, 0, 0, 0, 0), (36, .iconst 0, 1, 0, 0, 0, 0), (37, .aload_n 0, 1, 0, 0, 0, 0), (38, .getfield 101, 3, 10, 15, 4, 0), (41, .iconst 0, 1, 0, 0, 0, 0), (42, .iaload, 1, 0, 0, 0, 0), (43, .invokevirtual 203, 3, 184, 3, 14, 0), (46, .invokevirtual 193, 3, 219, 3, 14, 0)],
  [(49, .ifCond .ne 5, 3, 0, 0, 0, 0), (52, .iconst 0, 1, 0, 0, 0, 0), (53, .ireturn, 1, 0, 0, 0, 0), (54, .aload_n 0, 1, 0, 0, 0, 0), (55, .invokevirtual 82, 3, 167, 1, 14, 0), (58, .aload_n 0, 1, 0, 0, 0, 0), (59, .iconst 0, 1, 0, 0, 0, 0), (60, .aload_n 0, 1, 0, 0, 0, 0), (61, .getfield 101, 3, 10, 15, 4, 0)],
  [(64, .iconst 0, 1, 0, 0, 0, 0), (65, .iaload, 1, 0, 0, 0, 0), (66, .invokevirtual 203, 3, 184, 3, 14, 0), (69, .ifCond .ne 5, 3, 0, 0, 0, 0), (72, .iconst 0, 1, 0, 0, 0, 0), (73, .ireturn, 1, 0, 0, 0, 0), (74, .aload_n 0, 1, 0, 0, 0, 0), (75, .getfield 79, 3, 10, 13, 0, 0), (78, .aload_n 0, 1, 0, 0, 0, 0), (79, .getfield 101, 3, 10, 15, 4, 0)],
  [(82, .bipush 7, 2, 0, 0, 0, 0), (84, .iload_n 1, 1, 0, 0, 0, 0), (85, .iadd, 1, 0, 0, 0, 0), (86, .iaload, 1, 0, 0, 0, 0), (87, .if_icmp .ne 9, 3, 0, 0, 0, 0), (90, .aload_n 0, 1, 0, 0, 0, 0), (91, .iconst 3, 1, 0, 0, 0, 0), (92, .invokevirtual 72, 3, 144, 2, 14, 0), (95, .ireturn, 1, 0, 0, 0, 0)],
  [(96, .aload_n 0, 1, 0, 0, 0, 0), (97, .getfield 101, 3, 10, 15, 4, 0), (100, .bipush 13, 2, 0, 0, 0, 0), (102, .iload_n 1, 1, 0, 0, 0, 0), (103, .iadd, 1, 0, 0, 0, 0), (104, .aload_n 0, 1, 0, 0, 0, 0), (105, .getfield 79, 3, 10, 13, 0, 0), (108, .iastore, 1, 0, 0, 0, 0), (109, .aload_n 0, 1, 0, 0, 0, 0), (110, .invokevirtual 82, 3, 167, 1, 14, 0)],
  [(113, .aload_n 0, 1, 0, 0, 0, 0), (114, .bipush 19, 2, 0, 0, 0, 0), (116, .iload_n 1, 1, 0, 0, 0, 0), (117, .iadd, 1, 0, 0, 0, 0), (118, .bipush 25, 2, 0, 0, 0, 0), (120, .iload_n 1, 1, 0, 0, 0, 0), (121, .iadd, 1, 0, 0, 0, 0), (122, .invokevirtual 206, 3, 223, 3, 14, 0), (125, .ifCond .eq 21, 3, 0, 0, 0, 0)],
  [(128, .aload_n 0, 1, 0, 0, 0, 0), (129, .bipush 31, 2, 0, 0, 0, 0), (131, .iload_n 1, 1, 0, 0, 0, 0), (132, .iadd, 1, 0, 0, 0, 0), (133, .aload_n 0, 1, 0, 0, 0, 0), (134, .iconst 0, 1, 0, 0, 0, 0), (135, .bipush 63, 2, 0, 0, 0, 0), (137, .invokevirtual 189, 3, 237, 3, 14, 0), (140, .invokevirtual 193, 3, 219, 3, 14, 0), (143, .ifCond .ne 5, 3, 0, 0, 0, 0)],
  [(146, .iconst 0, 1, 0, 0, 0, 0), (147, .ireturn, 1, 0, 0, 0, 0), (148, .aload_n 0, 1, 0, 0, 0, 0), (149, .iconst 3, 1, 0, 0, 0, 0), (150, .invokevirtual 209, 3, 188, 2, 14, 0), (153, .ifCond .eq 20, 3, 0, 0, 0, 0), (156, .aload_n 0, 1, 0, 0, 0, 0), (157, .getfield 101, 3, 10, 15, 4, 0)],
  [(160, .bipush 37, 2, 0, 0, 0, 0), (162, .dup2, 1, 0, 0, 0, 0), (163, .iaload, 1, 0, 0, 0, 0), (164, .iconst 1, 1, 0, 0, 0, 0), (165, .iload_n 1, 1, 0, 0, 0, 0), (166, .ishl, 1, 0, 0, 0, 0), (167, .ior, 1, 0, 0, 0, 0), (168, .iastore, 1, 0, 0, 0, 0), (169, .aload_n 0, 1, 0, 0, 0, 0), (170, .invokevirtual 82, 3, 167, 1, 14, 0), (173, .aload_n 0, 1, 0, 0, 0, 0), (174, .getfield 101, 3, 10, 15, 4, 0)],
  [(177, .iconst 1, 1, 0, 0, 0, 0), (178, .dup2, 1, 0, 0, 0, 0), (179, .iaload, 1, 0, 0, 0, 0), (180, .iconst 1, 1, 0, 0, 0, 0), (181, .iadd, 1, 0, 0, 0, 0), (182, .iastore, 1, 0, 0, 0, 0), (183, .iconst 1, 1, 0, 0, 0, 0), (184, .ireturn, 1, 0, 0, 0, 0)]]
/-- LostKeysModel.readLock()Z -/
def rx_m232 : rx_Md := (yX10_readLock, cX10_readLock, 2, (some .boolean), 1, 1, 0, 0, rx_t232)
def rx_t233 : List (List rx_E) := [
  [(0, .aload_n 0, 1, 0, 0, 0, 0), (1, .iconst 2, 1, 0, 0, 0, 0), (2, .iconst 5, 1, 0, 0, 0, 0), (3, .invokevirtual 197, 3, 228, 3, 14, 0), (6, .ifCond .ne 5, 3, 0, 0, 0, 0), (9, .iconst 0, 1, 0, 0, 0, 0), (10, .ireturn, 1, 0, 0, 0, 0), (11, .aload_n 0, 1, 0, 0, 0, 0), (12, .getfield 101, 3, 10, 15, 4, 0), (15, .iconst 2, 1, 0, 0, 0, 0)],
  [(16, .iaload, 1, 0, 0, 0, 0), (17, .istore_n 1, 1, 0, 0, 0, 0), (18, .aload_n 0, 1, 0, 0, 0, 0), (19, .bipush 12, 2, 0, 0, 0, 0), (21, .iload_n 1, 1, 0, 0, 0, 0), (22, .iadd, 1, 0, 0, 0, 0), (23, .invokevirtual 200, 3, 235, 2, 14, 0), (26, .ifCond .eq 18, 3, 0, 0, 0, 0), (29, .aload_n 0, 1, 0, 0, 0, 0), (30, .bipush 38, 2, 0, 0, 0, 0)],
  [(32, .iload_n 1, 1, 0, 0, 0, 0), (33, .iadd, 1, 0, 0, 0, 0), (34, .bipush 43, 2, 0, 0, 0, 0), (36, .iload_n 1, 1, 0, 0, 0, 0), (37, .iadd, 1, 0, 0, 0, 0), (38, .invokevirtual 206, 3, 223, 3, 14, 0), (41, .ifCond .ne 5, 3, 0, 0, 0, 0), (44, .iconst 0, 1, 0, 0, 0, 0), (45, .ireturn, 1, 0, 0, 0, 0), (46, .aload_n 0, 1, 0, 0, 0, 0), (47, .getfield 101, 3, 10, 15, 4, 0)],
  [(50, .iconst 2, 1, 0, 0, 0, 0), (51, .dup2, 1, 0, 0, 0, 0), (52, .iaload, 1, 0, 0, 0, 0), (53, .iconst 1, 1, 0, 0, 0, 0), (54, .iadd, 1, 0, 0, 0, 0), (55, .iastore, 1, 0, 0, 0, 0), (56, .iconst 1, 1, 0, 0, 0, 0), (57, .ireturn, 1, 0, 0, 0, 0)]]
/-- LostKeysModel.readMan()Z -/
def rx_m233 : rx_Md := (yX10_readMan, cX10_readMan, 2, (some .boolean), 1, 1, 0, 0, rx_t233)
def rx_t234 : List (List rx_E) := [
  [(0, .aload_n 0, 1, 0, 0, 0, 0), (1, .invokevirtual 179, 3, 183, 1, 14, 0), (4, .ifCond .ne 9, 3, 0, 0, 0, 0), (7, .aload_n 0, 1, 0, 0, 0, 0), (8, .iconst 1, 1, 0, 0, 0, 0), (9, .invokevirtual 72, 3, 144, 2, 14, 0), (12, .ireturn, 1, 0, 0, 0, 0), (13, .aload_n 0, 1, 0, 0, 0, 0), (14, .aload_n 0, 1, 0, 0, 0, 0), (15, .getfield 113, 3, 10, 19, 4, 0)],
  [(18, .iload_n 1, 1, 0, 0, 0, 0), (19, .iload_n 2, 1, 0, 0, 0, 0), (20, .aload_n 0, 1, 0, 0, 0, 0), (21, .getfield 43, 3, 10, 12, 3, 0), (24, .invokestatic 175, 3, 162, 4, 0, 0), (27, .putfield 79, 3, 10, 13, 0, 0), (30, .aload_n 0, 1, 0, 0, 0, 0), (31, .getfield 79, 3, 10, 13, 0, 0)],
  [(34, .iconst (-1), 1, 0, 0, 0, 0), (35, .if_icmp .ne 9, 3, 0, 0, 0, 0), (38, .aload_n 0, 1, 0, 0, 0, 0), (39, .iconst 3, 1, 0, 0, 0, 0), (40, .invokevirtual 72, 3, 144, 2, 14, 0), (43, .ireturn, 1, 0, 0, 0, 0), (44, .aload_n 0, 1, 0, 0, 0, 0), (45, .invokevirtual 82, 3, 167, 1, 14, 0)],
  [(48, .iconst 1, 1, 0, 0, 0, 0), (49, .ireturn, 1, 0, 0, 0, 0)]]
/-- LostKeysModel.readNamed(II)Z -/
def rx_m234 : rx_Md := (yX10_readNamed, cX10_readNamed, 3, (some .boolean), 3, 1, 0, 0, rx_t234)
def rx_t235 : List (List rx_E) := [
  [(0, .aload_n 0, 1, 0, 0, 0, 0), (1, .invokevirtual 179, 3, 183, 1, 14, 0), (4, .ifCond .ne 9, 3, 0, 0, 0, 0), (7, .aload_n 0, 1, 0, 0, 0, 0), (8, .iconst 1, 1, 0, 0, 0, 0), (9, .invokevirtual 72, 3, 144, 2, 14, 0), (12, .ireturn, 1, 0, 0, 0, 0), (13, .aload_n 0, 1, 0, 0, 0, 0), (14, .invokevirtual 183, 3, 187, 1, 14, 0)],
  [(17, .ifCond .eq 9, 3, 0, 0, 0, 0), (20, .aload_n 0, 1, 0, 0, 0, 0), (21, .iconst 3, 1, 0, 0, 0, 0), (22, .invokevirtual 72, 3, 144, 2, 14, 0), (25, .ireturn, 1, 0, 0, 0, 0), (26, .aload_n 0, 1, 0, 0, 0, 0), (27, .getfield 117, 3, 10, 20, 4, 0), (30, .iload_n 1, 1, 0, 0, 0, 0), (31, .aload_n 0, 1, 0, 0, 0, 0)],
  [(32, .getfield 43, 3, 10, 12, 3, 0), (35, .lastore, 1, 0, 0, 0, 0), (36, .aload_n 0, 1, 0, 0, 0, 0), (37, .invokevirtual 82, 3, 167, 1, 14, 0), (40, .iconst 1, 1, 0, 0, 0, 0), (41, .ireturn, 1, 0, 0, 0, 0)]]
/-- LostKeysModel.readNew(I)Z -/
def rx_m235 : rx_Md := (yX10_readNew, cX10_readNew, 2, (some .boolean), 2, 1, 0, 0, rx_t235)
def rx_t236 : List (List rx_E) := [
  [(0, .aload_n 0, 1, 0, 0, 0, 0), (1, .invokevirtual 437, 3, 241, 1, 14, 0), (4, .ifCond .ne 5, 3, 0, 0, 0, 0), (7, .iconst 0, 1, 0, 0, 0, 0), (8, .ireturn, 1, 0, 0, 0, 0), (9, .aload_n 0, 1, 0, 0, 0, 0), (10, .aload_n 0, 1, 0, 0, 0, 0), (11, .iconst 1, 1, 0, 0, 0, 0), (12, .aload_n 0, 1, 0, 0, 0, 0), (13, .getfield 431, 3, 10, 49, 0, 0)],
  [(16, .iconst 0, 1, 0, 0, 0, 0), (17, .iconst 0, 1, 0, 0, 0, 0), (18, .invokevirtual 434, 3, 245, 5, 14, 0), (21, .putfield 431, 3, 10, 49, 0, 0), (24, .iconst 1, 1, 0, 0, 0, 0), (25, .ireturn, 1, 0, 0, 0, 0)]]
/-- LostKeysModel.readNot()Z -/
def rx_m236 : rx_Md := (yX10_readNot, cX10_readNot, 1, (some .boolean), 1, 1, 0, 0, rx_t236)
def rx_t237 : List (List rx_E) := [
  [(0, .aload_n 0, 1, 0, 0, 0, 0), (1, .getfield 30, 3, 10, 7, 0, 0), (4, .iconst 3, 1, 0, 0, 0, 0), (5, .if_icmp .eq 9, 3, 0, 0, 0, 0), (8, .aload_n 0, 1, 0, 0, 0, 0), (9, .iconst 1, 1, 0, 0, 0, 0), (10, .invokevirtual 72, 3, 144, 2, 14, 0), (13, .ireturn, 1, 0, 0, 0, 0), (14, .aload_n 0, 1, 0, 0, 0, 0), (15, .getfield 47, 3, 10, 8, 0, 0)],
  [(18, .iload_n 1, 1, 0, 0, 0, 0), (19, .iload_n 2, 1, 0, 0, 0, 0), (20, .invokestatic 75, 3, 177, 3, 0, 0), (23, .ifCond .ne 9, 3, 0, 0, 0, 0), (26, .aload_n 0, 1, 0, 0, 0, 0), (27, .iconst 2, 1, 0, 0, 0, 0), (28, .invokevirtual 72, 3, 144, 2, 14, 0), (31, .ireturn, 1, 0, 0, 0, 0)],
  [(32, .aload_n 0, 1, 0, 0, 0, 0), (33, .aload_n 0, 1, 0, 0, 0, 0), (34, .getfield 47, 3, 10, 8, 0, 0), (37, .putfield 79, 3, 10, 13, 0, 0), (40, .aload_n 0, 1, 0, 0, 0, 0), (41, .invokevirtual 82, 3, 167, 1, 14, 0), (44, .iconst 1, 1, 0, 0, 0, 0), (45, .ireturn, 1, 0, 0, 0, 0)]]
/-- LostKeysModel.readNumber(II)Z -/
def rx_m237 : rx_Md := (yX10_readNumber, cX10_readNumber, 3, (some .boolean), 3, 1, 0, 0, rx_t237)
def rx_t238 : List (List rx_E) := [
  [(0, .aload_n 0, 1, 0, 0, 0, 0), (1, .aload_n 0, 1, 0, 0, 0, 0), (2, .iload_n 1, 1, 0, 0, 0, 0), (3, .invokevirtual 461, 3, 182, 2, 14, 0), (6, .ifCond .eq 8, 3, 0, 0, 0, 0), (9, .bipush 12, 2, 0, 0, 0, 0), (11, .goto 5, 3, 0, 0, 0, 0), (14, .bipush 6, 2, 0, 0, 0, 0)],
  [(16, .aload_n 0, 1, 0, 0, 0, 0), (17, .getfield 98, 3, 10, 14, 4, 0), (20, .aload_n 0, 1, 0, 0, 0, 0), (21, .iload_n 1, 1, 0, 0, 0, 0), (22, .invokevirtual 461, 3, 182, 2, 14, 0), (25, .ifCond .eq 7, 3, 0, 0, 0, 0), (28, .iconst 2, 1, 0, 0, 0, 0), (29, .goto 4, 3, 0, 0, 0, 0)],
  [(32, .iconst 1, 1, 0, 0, 0, 0), (33, .iaload, 1, 0, 0, 0, 0), (34, .invokevirtual 397, 3, 234, 3, 14, 0), (37, .ifCond .ne 5, 3, 0, 0, 0, 0), (40, .iconst 0, 1, 0, 0, 0, 0), (41, .ireturn, 1, 0, 0, 0, 0), (42, .aload_n 0, 1, 0, 0, 0, 0), (43, .aload_n 0, 1, 0, 0, 0, 0), (44, .bipush 50, 2, 0, 0, 0, 0), (46, .iload_n 1, 1, 0, 0, 0, 0), (47, .iadd, 1, 0, 0, 0, 0)],
  [(48, .aload_n 0, 1, 0, 0, 0, 0), (49, .getfield 79, 3, 10, 13, 0, 0), (52, .iconst 0, 1, 0, 0, 0, 0), (53, .iconst 0, 1, 0, 0, 0, 0), (54, .invokevirtual 434, 3, 245, 5, 14, 0), (57, .putfield 431, 3, 10, 49, 0, 0), (60, .iconst 1, 1, 0, 0, 0, 0), (61, .ireturn, 1, 0, 0, 0, 0)]]
/-- LostKeysModel.readOf(I)Z -/
def rx_m238 : rx_Md := (yX10_readOf, cX10_readOf, 2, (some .boolean), 2, 1, 0, 0, rx_t238)
def rx_t239 : List (List rx_E) := [
  [(0, .aload_n 0, 1, 0, 0, 0, 0), (1, .invokevirtual 428, 3, 220, 1, 14, 0), (4, .ifCond .ne 5, 3, 0, 0, 0, 0), (7, .iconst 0, 1, 0, 0, 0, 0), (8, .ireturn, 1, 0, 0, 0, 0), (9, .aload_n 0, 1, 0, 0, 0, 0), (10, .getfield 431, 3, 10, 49, 0, 0), (13, .istore_n 1, 1, 0, 0, 0, 0), (14, .aload_n 0, 1, 0, 0, 0, 0), (15, .bipush 12, 2, 0, 0, 0, 0)],
  [(17, .invokevirtual 209, 3, 188, 2, 14, 0), (20, .ifCond .eq 31, 3, 0, 0, 0, 0), (23, .aload_n 0, 1, 0, 0, 0, 0), (24, .invokevirtual 82, 3, 167, 1, 14, 0), (27, .aload_n 0, 1, 0, 0, 0, 0), (28, .invokevirtual 428, 3, 220, 1, 14, 0), (31, .ifCond .ne 5, 3, 0, 0, 0, 0)],
  [(34, .iconst 0, 1, 0, 0, 0, 0), (35, .ireturn, 1, 0, 0, 0, 0), (36, .aload_n 0, 1, 0, 0, 0, 0), (37, .iconst 3, 1, 0, 0, 0, 0), (38, .iload_n 1, 1, 0, 0, 0, 0), (39, .aload_n 0, 1, 0, 0, 0, 0), (40, .getfield 431, 3, 10, 49, 0, 0), (43, .iconst 0, 1, 0, 0, 0, 0), (44, .invokevirtual 434, 3, 245, 5, 14, 0), (47, .istore_n 1, 1, 0, 0, 0, 0)],
  [(48, .goto (-34), 3, 0, 0, 0, 0), (51, .aload_n 0, 1, 0, 0, 0, 0), (52, .iload_n 1, 1, 0, 0, 0, 0), (53, .putfield 431, 3, 10, 49, 0, 0), (56, .iconst 1, 1, 0, 0, 0, 0), (57, .ireturn, 1, 0, 0, 0, 0)]]
/-- LostKeysModel.readOr()Z -/
def rx_m239 : rx_Md := (yX10_readOr, cX10_readOr, 2, (some .boolean), 1, 1, 0, 0, rx_t239)
def rx_t240 : List (List rx_E) := [
  [(0, .aload_n 0, 1, 0, 0, 0, 0), (1, .iconst 0, 1, 0, 0, 0, 0), (2, .bipush 6, 2, 0, 0, 0, 0), (4, .invokevirtual 197, 3, 228, 3, 14, 0), (7, .ifCond .eq 16, 3, 0, 0, 0, 0), (10, .aload_n 0, 1, 0, 0, 0, 0), (11, .aload_n 0, 1, 0, 0, 0, 0), (12, .getfield 101, 3, 10, 15, 4, 0), (15, .iconst 0, 1, 0, 0, 0, 0)],
  [(16, .iaload, 1, 0, 0, 0, 0), (17, .invokevirtual 200, 3, 235, 2, 14, 0), (20, .ifCond .ne 5, 3, 0, 0, 0, 0), (23, .iconst 0, 1, 0, 0, 0, 0), (24, .ireturn, 1, 0, 0, 0, 0), (25, .aload_n 0, 1, 0, 0, 0, 0), (26, .getfield 101, 3, 10, 15, 4, 0), (29, .iconst 0, 1, 0, 0, 0, 0), (30, .dup2, 1, 0, 0, 0, 0), (31, .iaload, 1, 0, 0, 0, 0)],
  [(32, .iconst 1, 1, 0, 0, 0, 0), (33, .iadd, 1, 0, 0, 0, 0), (34, .iastore, 1, 0, 0, 0, 0), (35, .iconst 1, 1, 0, 0, 0, 0), (36, .ireturn, 1, 0, 0, 0, 0)]]
/-- LostKeysModel.readRoom()Z -/
def rx_m240 : rx_Md := (yX10_readRoom, cX10_readRoom, 1, (some .boolean), 1, 1, 0, 0, rx_t240)
def rx_t241 : List (List rx_E) := [
  [(0, .aload_n 0, 1, 0, 0, 0, 0), (1, .bipush 40, 2, 0, 0, 0, 0), (3, .invokevirtual 86, 3, 186, 2, 14, 0), (6, .istore_n 1, 1, 0, 0, 0, 0), (7, .bipush 14, 2, 0, 0, 0, 0), (9, .istore_n 2, 1, 0, 0, 0, 0), (10, .iload_n 2, 1, 0, 0, 0, 0), (11, .bipush 23, 2, 0, 0, 0, 0), (13, .if_icmp .gt 17, 3, 0, 0, 0, 0)],
  [(16, .aload_n 0, 1, 0, 0, 0, 0), (17, .iload_n 2, 1, 0, 0, 0, 0), (18, .invokevirtual 209, 3, 188, 2, 14, 0), (21, .ifCond .ne 9, 3, 0, 0, 0, 0), (24, .iinc 2 1, 3, 0, 0, 0, 0), (27, .goto (-17), 3, 0, 0, 0, 0), (30, .iload_n 1, 1, 0, 0, 0, 0), (31, .ifCond .ne 15, 3, 0, 0, 0, 0)],
  [(34, .iload_n 2, 1, 0, 0, 0, 0), (35, .bipush 23, 2, 0, 0, 0, 0), (37, .if_icmp .le 9, 3, 0, 0, 0, 0), (40, .aload_n 0, 1, 0, 0, 0, 0), (41, .iconst 1, 1, 0, 0, 0, 0), (42, .invokevirtual 72, 3, 144, 2, 14, 0), (45, .ireturn, 1, 0, 0, 0, 0), (46, .aload_n 0, 1, 0, 0, 0, 0), (47, .getfield 440, 3, 10, 47, 0, 0)],
  [(50, .bipush 20, 2, 0, 0, 0, 0), (52, .if_icmp .eq 12, 3, 0, 0, 0, 0), (55, .aload_n 0, 1, 0, 0, 0, 0), (56, .getfield 443, 3, 10, 48, 0, 0), (59, .bipush 8, 2, 0, 0, 0, 0), (61, .if_icmp .ne 9, 3, 0, 0, 0, 0)],
  [(64, .aload_n 0, 1, 0, 0, 0, 0), (65, .iconst 4, 1, 0, 0, 0, 0), (66, .invokevirtual 72, 3, 144, 2, 14, 0), (69, .ireturn, 1, 0, 0, 0, 0), (70, .aload_n 0, 1, 0, 0, 0, 0), (71, .dup, 1, 0, 0, 0, 0), (72, .getfield 440, 3, 10, 47, 0, 0), (75, .iconst 1, 1, 0, 0, 0, 0), (76, .iadd, 1, 0, 0, 0, 0), (77, .putfield 440, 3, 10, 47, 0, 0)],
  [(80, .aload_n 0, 1, 0, 0, 0, 0), (81, .dup, 1, 0, 0, 0, 0), (82, .getfield 443, 3, 10, 48, 0, 0), (85, .iconst 1, 1, 0, 0, 0, 0), (86, .iadd, 1, 0, 0, 0, 0), (87, .putfield 443, 3, 10, 48, 0, 0), (90, .aload_n 0, 1, 0, 0, 0, 0), (91, .invokevirtual 82, 3, 167, 1, 14, 0), (94, .iconst 1, 1, 0, 0, 0, 0), (95, .istore_n 3, 1, 0, 0, 0, 0)],
  [(96, .iload_n 1, 1, 0, 0, 0, 0), (97, .ifCond .eq 11, 3, 0, 0, 0, 0), (100, .aload_n 0, 1, 0, 0, 0, 0), (101, .invokevirtual 446, 3, 222, 1, 14, 0), (104, .istore_n 3, 1, 0, 0, 0, 0), (105, .goto 61, 3, 0, 0, 0, 0), (108, .iload_n 2, 1, 0, 0, 0, 0), (109, .bipush 14, 2, 0, 0, 0, 0), (111, .if_icmp .ne 11, 3, 0, 0, 0, 0)],
  [(114, .aload_n 0, 1, 0, 0, 0, 0), (115, .invokevirtual 449, 3, 236, 1, 14, 0), (118, .istore_n 3, 1, 0, 0, 0, 0), (119, .goto 47, 3, 0, 0, 0, 0), (122, .iload_n 2, 1, 0, 0, 0, 0), (123, .bipush 16, 2, 0, 0, 0, 0), (125, .if_icmp .ge 21, 3, 0, 0, 0, 0)],
  [(128, .aload_n 0, 1, 0, 0, 0, 0), (129, .aload_n 0, 1, 0, 0, 0, 0), (130, .bipush 50, 2, 0, 0, 0, 0), (132, .iload_n 2, 1, 0, 0, 0, 0), (133, .iadd, 1, 0, 0, 0, 0), (134, .iconst 0, 1, 0, 0, 0, 0), (135, .iconst 0, 1, 0, 0, 0, 0), (136, .iconst 0, 1, 0, 0, 0, 0), (137, .invokevirtual 434, 3, 245, 5, 14, 0), (140, .putfield 431, 3, 10, 49, 0, 0), (143, .goto 23, 3, 0, 0, 0, 0)],
  [(146, .iload_n 2, 1, 0, 0, 0, 0), (147, .bipush 20, 2, 0, 0, 0, 0), (149, .if_icmp .ge 11, 3, 0, 0, 0, 0), (152, .aload_n 0, 1, 0, 0, 0, 0), (153, .iload_n 2, 1, 0, 0, 0, 0), (154, .invokevirtual 452, 3, 238, 2, 14, 0), (157, .goto 8, 3, 0, 0, 0, 0)],
  [(160, .aload_n 0, 1, 0, 0, 0, 0), (161, .iload_n 2, 1, 0, 0, 0, 0), (162, .invokevirtual 455, 3, 224, 2, 14, 0), (165, .istore_n 3, 1, 0, 0, 0, 0), (166, .aload_n 0, 1, 0, 0, 0, 0), (167, .dup, 1, 0, 0, 0, 0), (168, .getfield 443, 3, 10, 48, 0, 0), (171, .iconst 1, 1, 0, 0, 0, 0), (172, .isub, 1, 0, 0, 0, 0), (173, .putfield 443, 3, 10, 48, 0, 0)],
  [(176, .iload_n 3, 1, 0, 0, 0, 0), (177, .ireturn, 1, 0, 0, 0, 0)]]
/-- LostKeysModel.readSaid()Z -/
def rx_m241 : rx_Md := (yX10_readSaid, cX10_readSaid, 4, (some .boolean), 1, 1, 0, 0, rx_t241)
def rx_t242 : List (List rx_E) := [
  [(0, .aload_n 0, 1, 0, 0, 0, 0), (1, .iconst 1, 1, 0, 0, 0, 0), (2, .putfield 1, 3, 10, 0, 0, 0), (5, .iconst 0, 1, 0, 0, 0, 0), (6, .ireturn, 1, 0, 0, 0, 0)]]
/-- LostKeysModel.refuse()I -/
def rx_m242 : rx_Md := (yX10_refuse, cX10_refuse, 1, (some .int), 1, 1, 0, 0, rx_t242)
def rx_t243 : List (List rx_E) := [
  [(0, .aload_n 0, 1, 0, 0, 0, 0), (1, .iconst 0, 1, 0, 0, 0, 0), (2, .putfield 1, 3, 10, 0, 0, 0), (5, .iload_n 1, 1, 0, 0, 0, 0), (6, .iconst 0, 1, 0, 0, 0, 0), (7, .iconst 1, 1, 0, 0, 0, 0), (8, .invokestatic 75, 3, 177, 3, 0, 0), (11, .ifCond .eq 12, 3, 0, 0, 0, 0), (14, .aload_n 0, 1, 0, 0, 0, 0), (15, .getfield 123, 3, 10, 22, 4, 0)],
  [(18, .iload_n 1, 1, 0, 0, 0, 0), (19, .baload, 1, 0, 0, 0, 0), (20, .ifCond .ne 5, 3, 0, 0, 0, 0), (23, .iconst 0, 1, 0, 0, 0, 0), (24, .ireturn, 1, 0, 0, 0, 0), (25, .iconst 0, 1, 0, 0, 0, 0), (26, .istore_n 2, 1, 0, 0, 0, 0), (27, .iload_n 2, 1, 0, 0, 0, 0), (28, .sipush 367, 3, 0, 0, 0, 0), (31, .if_icmp .ge 27, 3, 0, 0, 0, 0)],
  [(34, .aload_n 0, 1, 0, 0, 0, 0), (35, .getfield 98, 3, 10, 14, 4, 0), (38, .iload_n 2, 1, 0, 0, 0, 0), (39, .aload_n 0, 1, 0, 0, 0, 0), (40, .getfield 104, 3, 10, 16, 4, 0), (43, .sipush 367, 3, 0, 0, 0, 0), (46, .iload_n 1, 1, 0, 0, 0, 0), (47, .imul, 1, 0, 0, 0, 0)],
  [(48, .iload_n 2, 1, 0, 0, 0, 0), (49, .iadd, 1, 0, 0, 0, 0), (50, .iaload, 1, 0, 0, 0, 0), (51, .iastore, 1, 0, 0, 0, 0), (52, .iinc 2 1, 3, 0, 0, 0, 0), (55, .goto (-28), 3, 0, 0, 0, 0), (58, .iconst 0, 1, 0, 0, 0, 0), (59, .istore_n 2, 1, 0, 0, 0, 0), (60, .iload_n 2, 1, 0, 0, 0, 0), (61, .bipush 25, 2, 0, 0, 0, 0), (63, .if_icmp .ge 26, 3, 0, 0, 0, 0)],
  [(66, .aload_n 0, 1, 0, 0, 0, 0), (67, .getfield 113, 3, 10, 19, 4, 0), (70, .iload_n 2, 1, 0, 0, 0, 0), (71, .aload_n 0, 1, 0, 0, 0, 0), (72, .getfield 120, 3, 10, 21, 4, 0), (75, .bipush 25, 2, 0, 0, 0, 0), (77, .iload_n 1, 1, 0, 0, 0, 0), (78, .imul, 1, 0, 0, 0, 0), (79, .iload_n 2, 1, 0, 0, 0, 0)],
  [(80, .iadd, 1, 0, 0, 0, 0), (81, .laload, 1, 0, 0, 0, 0), (82, .lastore, 1, 0, 0, 0, 0), (83, .iinc 2 1, 3, 0, 0, 0, 0), (86, .goto (-26), 3, 0, 0, 0, 0), (89, .aload_n 0, 1, 0, 0, 0, 0), (90, .iconst 0, 1, 0, 0, 0, 0), (91, .putfield 239, 3, 10, 24, 0, 0), (94, .iconst 1, 1, 0, 0, 0, 0), (95, .ireturn, 1, 0, 0, 0, 0)]]
/-- LostKeysModel.restore(I)Z -/
def rx_m243 : rx_Md := (yX10_restore, cX10_restore, 3, (some .boolean), 2, 1, 0, 0, rx_t243)
def rx_t244 : List (List rx_E) := [
  [(0, .aload_n 0, 1, 0, 0, 0, 0), (1, .iconst 0, 1, 0, 0, 0, 0), (2, .putfield 1, 3, 10, 0, 0, 0), (5, .aload_n 0, 1, 0, 0, 0, 0), (6, .getfield 98, 3, 10, 14, 4, 0), (9, .bipush 125, 2, 0, 0, 0, 0), (11, .iaload, 1, 0, 0, 0, 0), (12, .ifCond .ne 5, 3, 0, 0, 0, 0), (15, .iconst (-1), 1, 0, 0, 0, 0)],
  [(16, .ireturn, 1, 0, 0, 0, 0), (17, .iconst 0, 1, 0, 0, 0, 0), (18, .istore_n 2, 1, 0, 0, 0, 0), (19, .iconst 0, 1, 0, 0, 0, 0), (20, .istore_n 3, 1, 0, 0, 0, 0), (21, .iload_n 3, 1, 0, 0, 0, 0), (22, .aload_n 0, 1, 0, 0, 0, 0), (23, .getfield 98, 3, 10, 14, 4, 0), (26, .iconst 3, 1, 0, 0, 0, 0), (27, .iaload, 1, 0, 0, 0, 0), (28, .if_icmp .ge 37, 3, 0, 0, 0, 0), (31, .aload_n 0, 1, 0, 0, 0, 0)],
  [(32, .aload_n 0, 1, 0, 0, 0, 0), (33, .getfield 98, 3, 10, 14, 4, 0), (36, .bipush 126, 2, 0, 0, 0, 0), (38, .iaload, 1, 0, 0, 0, 0), (39, .iload_n 3, 1, 0, 0, 0, 0), (40, .invokevirtual 464, 3, 171, 3, 14, 0), (43, .ifCond .ne 6, 3, 0, 0, 0, 0), (46, .goto 13, 3, 0, 0, 0, 0)],
  [(49, .iload_n 2, 1, 0, 0, 0, 0), (50, .iload_n 1, 1, 0, 0, 0, 0), (51, .if_icmp .ne 5, 3, 0, 0, 0, 0), (54, .iload_n 3, 1, 0, 0, 0, 0), (55, .ireturn, 1, 0, 0, 0, 0), (56, .iinc 2 1, 3, 0, 0, 0, 0), (59, .iinc 3 1, 3, 0, 0, 0, 0), (62, .goto (-41), 3, 0, 0, 0, 0)],
  [(65, .iload_n 1, 1, 0, 0, 0, 0), (66, .iconst (-1), 1, 0, 0, 0, 0), (67, .if_icmp .ne 7, 3, 0, 0, 0, 0), (70, .iload_n 2, 1, 0, 0, 0, 0), (71, .goto 4, 3, 0, 0, 0, 0), (74, .iconst (-1), 1, 0, 0, 0, 0), (75, .ireturn, 1, 0, 0, 0, 0)]]
/-- LostKeysModel.said(I)I -/
def rx_m244 : rx_Md := (yX10_said, cX10_said, 4, (some .int), 2, 1, 0, 0, rx_t244)
def rx_t245 : List (List rx_E) := [
  [(0, .iconst 4, 1, 0, 0, 0, 0), (1, .aload_n 0, 1, 0, 0, 0, 0), (2, .getfield 425, 3, 10, 46, 0, 0), (5, .imul, 1, 0, 0, 0, 0), (6, .istore 5, 2, 0, 0, 0, 0), (8, .aload_n 0, 1, 0, 0, 0, 0), (9, .getfield 169, 3, 10, 45, 4, 0), (12, .iload 5, 2, 0, 0, 0, 0), (14, .iload_n 1, 1, 0, 0, 0, 0), (15, .iastore, 1, 0, 0, 0, 0)],
  [(16, .aload_n 0, 1, 0, 0, 0, 0), (17, .getfield 169, 3, 10, 45, 4, 0), (20, .iload 5, 2, 0, 0, 0, 0), (22, .iconst 1, 1, 0, 0, 0, 0), (23, .iadd, 1, 0, 0, 0, 0), (24, .iload_n 2, 1, 0, 0, 0, 0), (25, .iastore, 1, 0, 0, 0, 0), (26, .aload_n 0, 1, 0, 0, 0, 0), (27, .getfield 169, 3, 10, 45, 4, 0), (30, .iload 5, 2, 0, 0, 0, 0)],
  [(32, .iconst 2, 1, 0, 0, 0, 0), (33, .iadd, 1, 0, 0, 0, 0), (34, .iload_n 3, 1, 0, 0, 0, 0), (35, .iastore, 1, 0, 0, 0, 0), (36, .aload_n 0, 1, 0, 0, 0, 0), (37, .getfield 169, 3, 10, 45, 4, 0), (40, .iload 5, 2, 0, 0, 0, 0), (42, .iconst 3, 1, 0, 0, 0, 0), (43, .iadd, 1, 0, 0, 0, 0), (44, .iload 4, 2, 0, 0, 0, 0), (46, .iastore, 1, 0, 0, 0, 0), (47, .aload_n 0, 1, 0, 0, 0, 0)],
  [(48, .dup, 1, 0, 0, 0, 0), (49, .getfield 425, 3, 10, 46, 0, 0), (52, .iconst 1, 1, 0, 0, 0, 0), (53, .iadd, 1, 0, 0, 0, 0), (54, .putfield 425, 3, 10, 46, 0, 0), (57, .aload_n 0, 1, 0, 0, 0, 0), (58, .getfield 425, 3, 10, 46, 0, 0), (61, .iconst 1, 1, 0, 0, 0, 0), (62, .isub, 1, 0, 0, 0, 0), (63, .ireturn, 1, 0, 0, 0, 0)]]
/-- LostKeysModel.saysOne(IIII)I -/
def rx_m245 : rx_Md := (yX10_saysOne, cX10_saysOne, 6, (some .int), 5, 1, 0, 0, rx_t245)
def rx_t246 : List (List rx_E) := [
  [(0, .aload_n 0, 1, 0, 0, 0, 0), (1, .sipush 200, 3, 0, 0, 0, 0), (4, .invokevirtual 227, 3, 145, 2, 14, 0), (7, .aload_n 0, 1, 0, 0, 0, 0), (8, .iconst 0, 1, 0, 0, 0, 0), (9, .putfield 425, 3, 10, 46, 0, 0), (12, .aload_n 0, 1, 0, 0, 0, 0), (13, .iconst 0, 1, 0, 0, 0, 0), (14, .putfield 440, 3, 10, 47, 0, 0)],
  [(17, .aload_n 0, 1, 0, 0, 0, 0), (18, .iconst 0, 1, 0, 0, 0, 0), (19, .putfield 443, 3, 10, 48, 0, 0), (22, .aload_n 0, 1, 0, 0, 0, 0), (23, .invokevirtual 458, 3, 239, 1, 14, 0), (26, .ifCond .ne 10, 3, 0, 0, 0, 0), (29, .iconst (-1), 1, 0, 0, 0, 0), (30, .aload_n 0, 1, 0, 0, 0, 0), (31, .getfield 69, 3, 10, 11, 0, 0)],
  [(34, .isub, 1, 0, 0, 0, 0), (35, .ireturn, 1, 0, 0, 0, 0), (36, .aload_n 0, 1, 0, 0, 0, 0), (37, .getfield 30, 3, 10, 7, 0, 0), (40, .ifCond .eq 16, 3, 0, 0, 0, 0), (43, .aload_n 0, 1, 0, 0, 0, 0), (44, .iconst 1, 1, 0, 0, 0, 0), (45, .invokevirtual 72, 3, 144, 2, 14, 0)],
  [(48, .pop, 1, 0, 0, 0, 0), (49, .iconst (-1), 1, 0, 0, 0, 0), (50, .aload_n 0, 1, 0, 0, 0, 0), (51, .getfield 69, 3, 10, 11, 0, 0), (54, .isub, 1, 0, 0, 0, 0), (55, .ireturn, 1, 0, 0, 0, 0), (56, .aload_n 0, 1, 0, 0, 0, 0), (57, .getfield 98, 3, 10, 14, 4, 0), (60, .bipush 125, 2, 0, 0, 0, 0), (62, .iconst 1, 1, 0, 0, 0, 0), (63, .iastore, 1, 0, 0, 0, 0)],
  [(64, .aload_n 0, 1, 0, 0, 0, 0), (65, .getfield 98, 3, 10, 14, 4, 0), (68, .bipush 126, 2, 0, 0, 0, 0), (70, .aload_n 0, 1, 0, 0, 0, 0), (71, .getfield 431, 3, 10, 49, 0, 0), (74, .iastore, 1, 0, 0, 0, 0), (75, .iconst 0, 1, 0, 0, 0, 0), (76, .istore_n 1, 1, 0, 0, 0, 0), (77, .iload_n 1, 1, 0, 0, 0, 0), (78, .sipush 240, 3, 0, 0, 0, 0)],
  [(81, .if_icmp .ge 24, 3, 0, 0, 0, 0), (84, .aload_n 0, 1, 0, 0, 0, 0), (85, .getfield 98, 3, 10, 14, 4, 0), (88, .bipush 127, 2, 0, 0, 0, 0), (90, .iload_n 1, 1, 0, 0, 0, 0), (91, .iadd, 1, 0, 0, 0, 0), (92, .aload_n 0, 1, 0, 0, 0, 0), (93, .getfield 169, 3, 10, 45, 4, 0)],
  [(96, .iload_n 1, 1, 0, 0, 0, 0), (97, .iaload, 1, 0, 0, 0, 0), (98, .iastore, 1, 0, 0, 0, 0), (99, .iinc 1 1, 3, 0, 0, 0, 0), (102, .goto (-25), 3, 0, 0, 0, 0), (105, .aload_n 0, 1, 0, 0, 0, 0), (106, .getfield 440, 3, 10, 47, 0, 0), (109, .ireturn, 1, 0, 0, 0, 0)]]
/-- LostKeysModel.sentence()I -/
def rx_m246 : rx_Md := (yX10_sentence, cX10_sentence, 2, (some .int), 1, 1, 0, 0, rx_t246)
def rx_t247 : List (List rx_E) := [
  [(0, .iload_n 0, 1, 0, 0, 0, 0), (1, .ifCond .ge 8, 3, 0, 0, 0, 0), (4, .iload_n 0, 1, 0, 0, 0, 0), (5, .ineg, 1, 0, 0, 0, 0), (6, .goto 4, 3, 0, 0, 0, 0), (9, .iload_n 0, 1, 0, 0, 0, 0), (10, .ireturn, 1, 0, 0, 0, 0)]]
/-- LostKeysModel.size(I)I -/
def rx_m247 : rx_Md := (yX10_size, cX10_size, 1, (some .int), 1, 0, 0, 0, rx_t247)
def rx_t248 : List (List rx_E) := [
  [(0, .aload_n 0, 1, 0, 0, 0, 0), (1, .getfield 239, 3, 10, 24, 0, 0), (4, .bipush 8, 2, 0, 0, 0, 0), (6, .if_icmp .ne 43, 3, 0, 0, 0, 0), (9, .iconst 0, 1, 0, 0, 0, 0), (10, .istore_n 1, 1, 0, 0, 0, 0), (11, .iload_n 1, 1, 0, 0, 0, 0), (12, .sipush 427, 3, 0, 0, 0, 0), (15, .if_icmp .ge 24, 3, 0, 0, 0, 0)],
  [(18, .aload_n 0, 1, 0, 0, 0, 0), (19, .getfield 107, 3, 10, 17, 4, 0), (22, .iload_n 1, 1, 0, 0, 0, 0), (23, .aload_n 0, 1, 0, 0, 0, 0), (24, .getfield 107, 3, 10, 17, 4, 0), (27, .iload_n 1, 1, 0, 0, 0, 0), (28, .bipush 61, 2, 0, 0, 0, 0), (30, .iadd, 1, 0, 0, 0, 0), (31, .iaload, 1, 0, 0, 0, 0)],
  [(32, .iastore, 1, 0, 0, 0, 0), (33, .iinc 1 1, 3, 0, 0, 0, 0), (36, .goto (-25), 3, 0, 0, 0, 0), (39, .aload_n 0, 1, 0, 0, 0, 0), (40, .dup, 1, 0, 0, 0, 0), (41, .getfield 239, 3, 10, 24, 0, 0), (44, .iconst 1, 1, 0, 0, 0, 0), (45, .isub, 1, 0, 0, 0, 0), (46, .putfield 239, 3, 10, 24, 0, 0)],
  [(49, .iconst 0, 1, 0, 0, 0, 0), (50, .istore_n 1, 1, 0, 0, 0, 0), (51, .iload_n 1, 1, 0, 0, 0, 0), (52, .bipush 61, 2, 0, 0, 0, 0), (54, .if_icmp .ge 32, 3, 0, 0, 0, 0), (57, .aload_n 0, 1, 0, 0, 0, 0), (58, .getfield 107, 3, 10, 17, 4, 0), (61, .bipush 61, 2, 0, 0, 0, 0), (63, .aload_n 0, 1, 0, 0, 0, 0)],
  [(64, .getfield 239, 3, 10, 24, 0, 0), (67, .imul, 1, 0, 0, 0, 0), (68, .iload_n 1, 1, 0, 0, 0, 0), (69, .iadd, 1, 0, 0, 0, 0), (70, .aload_n 0, 1, 0, 0, 0, 0), (71, .getfield 98, 3, 10, 14, 4, 0), (74, .bipush 64, 2, 0, 0, 0, 0), (76, .iload_n 1, 1, 0, 0, 0, 0), (77, .iadd, 1, 0, 0, 0, 0), (78, .iaload, 1, 0, 0, 0, 0), (79, .iastore, 1, 0, 0, 0, 0)],
  [(80, .iinc 1 1, 3, 0, 0, 0, 0), (83, .goto (-32), 3, 0, 0, 0, 0), (86, .aload_n 0, 1, 0, 0, 0, 0), (87, .dup, 1, 0, 0, 0, 0), (88, .getfield 239, 3, 10, 24, 0, 0), (91, .iconst 1, 1, 0, 0, 0, 0), (92, .iadd, 1, 0, 0, 0, 0), (93, .putfield 239, 3, 10, 24, 0, 0)],
  [(96, .return_, 1, 0, 0, 0, 0)]]
/-- LostKeysModel.snap()V -/
def rx_m248 : rx_Md := (yX10_snap, cX10_snap, 2, none, 1, 1, 0, 0, rx_t248)
def rx_t249 : List (List rx_E) := [
  [(0, .ldc2_w 54, 3, 0, 0, 1, 27), (3, .iload_n 0, 1, 0, 0, 0, 0), (4, .i2l, 1, 0, 0, 0, 0), (5, .ldc2_w 56, 3, 0, 0, 1, 96), (8, .lsub, 1, 0, 0, 0, 0), (9, .lmul, 1, 0, 0, 0, 0), (10, .iload_n 1, 1, 0, 0, 0, 0), (11, .i2l, 1, 0, 0, 0, 0), (12, .ladd, 1, 0, 0, 0, 0), (13, .ldc2_w 56, 3, 0, 0, 1, 96)],
  [(16, .lsub, 1, 0, 0, 0, 0), (17, .lstore 6, 2, 0, 0, 0, 0), (19, .iload_n 2, 1, 0, 0, 0, 0), (20, .ifCond .le 18, 3, 0, 0, 0, 0), (23, .ldc2_w 54, 3, 0, 0, 1, 27), (26, .lload 6, 2, 0, 0, 0, 0), (28, .lmul, 1, 0, 0, 0, 0), (29, .iload_n 2, 1, 0, 0, 0, 0), (30, .i2l, 1, 0, 0, 0, 0), (31, .ladd, 1, 0, 0, 0, 0)],
  [(32, .ldc2_w 56, 3, 0, 0, 1, 96), (35, .lsub, 1, 0, 0, 0, 0), (36, .lstore 6, 2, 0, 0, 0, 0), (38, .iload_n 3, 1, 0, 0, 0, 0), (39, .ifCond .le 18, 3, 0, 0, 0, 0), (42, .ldc2_w 54, 3, 0, 0, 1, 27), (45, .lload 6, 2, 0, 0, 0, 0), (47, .lmul, 1, 0, 0, 0, 0)],
  [(48, .iload_n 3, 1, 0, 0, 0, 0), (49, .i2l, 1, 0, 0, 0, 0), (50, .ladd, 1, 0, 0, 0, 0), (51, .ldc2_w 56, 3, 0, 0, 1, 96), (54, .lsub, 1, 0, 0, 0, 0), (55, .lstore 6, 2, 0, 0, 0, 0), (57, .iload 4, 2, 0, 0, 0, 0), (59, .ifCond .le 19, 3, 0, 0, 0, 0), (62, .ldc2_w 54, 3, 0, 0, 1, 27)],
  [(65, .lload 6, 2, 0, 0, 0, 0), (67, .lmul, 1, 0, 0, 0, 0), (68, .iload 4, 2, 0, 0, 0, 0), (70, .i2l, 1, 0, 0, 0, 0), (71, .ladd, 1, 0, 0, 0, 0), (72, .ldc2_w 56, 3, 0, 0, 1, 96), (75, .lsub, 1, 0, 0, 0, 0), (76, .lstore 6, 2, 0, 0, 0, 0), (78, .iload 5, 2, 0, 0, 0, 0)],
  [(80, .ifCond .le 19, 3, 0, 0, 0, 0), (83, .ldc2_w 54, 3, 0, 0, 1, 27), (86, .lload 6, 2, 0, 0, 0, 0), (88, .lmul, 1, 0, 0, 0, 0), (89, .iload 5, 2, 0, 0, 0, 0), (91, .i2l, 1, 0, 0, 0, 0), (92, .ladd, 1, 0, 0, 0, 0), (93, .ldc2_w 56, 3, 0, 0, 1, 96)],
  [(96, .lsub, 1, 0, 0, 0, 0), (97, .lstore 6, 2, 0, 0, 0, 0), (99, .lload 6, 2, 0, 0, 0, 0), (101, .lreturn, 1, 0, 0, 0, 0)]]
/-- LostKeysModel.spelt(IIIIII)J -/
def rx_m249 : rx_Md := (yX10_spelt, cX10_spelt, 8, (some .long), 6, 0, 0, 0, rx_t249)
def rx_t250 : List (List rx_E) := [
  [(0, .iconst 0, 1, 0, 0, 0, 0), (1, .istore_n 1, 1, 0, 0, 0, 0), (2, .iload_n 1, 1, 0, 0, 0, 0), (3, .bipush 64, 2, 0, 0, 0, 0), (5, .if_icmp .ge 16, 3, 0, 0, 0, 0), (8, .aload_n 0, 1, 0, 0, 0, 0), (9, .getfield 101, 3, 10, 15, 4, 0), (12, .iload_n 1, 1, 0, 0, 0, 0), (13, .iconst 0, 1, 0, 0, 0, 0), (14, .iastore, 1, 0, 0, 0, 0), (15, .iinc 1 1, 3, 0, 0, 0, 0)],
  [(18, .goto (-16), 3, 0, 0, 0, 0), (21, .aload_n 0, 1, 0, 0, 0, 0), (22, .getfield 127, 3, 10, 23, 4, 0), (25, .iconst 0, 1, 0, 0, 0, 0), (26, .iconst 0, 1, 0, 0, 0, 0), (27, .bastore, 1, 0, 0, 0, 0), (28, .aload_n 0, 1, 0, 0, 0, 0), (29, .getfield 127, 3, 10, 23, 4, 0)],
  [(32, .iconst 1, 1, 0, 0, 0, 0), (33, .iconst 0, 1, 0, 0, 0, 0), (34, .bastore, 1, 0, 0, 0, 0), (35, .aload_n 0, 1, 0, 0, 0, 0), (36, .getfield 101, 3, 10, 15, 4, 0), (39, .iconst 4, 1, 0, 0, 0, 0), (40, .iconst 5, 1, 0, 0, 0, 0), (41, .iastore, 1, 0, 0, 0, 0), (42, .aload_n 0, 1, 0, 0, 0, 0), (43, .getfield 101, 3, 10, 15, 4, 0), (46, .iconst 5, 1, 0, 0, 0, 0), (47, .iconst 5, 1, 0, 0, 0, 0)],
  [(48, .iastore, 1, 0, 0, 0, 0), (49, .aload_n 0, 1, 0, 0, 0, 0), (50, .getfield 101, 3, 10, 15, 4, 0), (53, .bipush 6, 2, 0, 0, 0, 0), (55, .iconst 2, 1, 0, 0, 0, 0), (56, .iastore, 1, 0, 0, 0, 0), (57, .return_, 1, 0, 0, 0, 0)]]
/-- LostKeysModel.startRead()V -/
def rx_m250 : rx_Md := (yX10_startRead, cX10_startRead, 2, none, 1, 1, 0, 0, rx_t250)
def rx_t251 : List (List rx_E) := [
  [(0, .bipush 64, 2, 0, 0, 0, 0), (2, .istore_n 1, 1, 0, 0, 0, 0), (3, .iload_n 1, 1, 0, 0, 0, 0), (4, .sipush 367, 3, 0, 0, 0, 0), (7, .if_icmp .ge 16, 3, 0, 0, 0, 0), (10, .aload_n 0, 1, 0, 0, 0, 0), (11, .getfield 98, 3, 10, 14, 4, 0), (14, .iload_n 1, 1, 0, 0, 0, 0), (15, .iconst 0, 1, 0, 0, 0, 0)],
  [(16, .iastore, 1, 0, 0, 0, 0), (17, .iinc 1 1, 3, 0, 0, 0, 0), (20, .goto (-17), 3, 0, 0, 0, 0), (23, .aload_n 0, 1, 0, 0, 0, 0), (24, .getfield 98, 3, 10, 14, 4, 0), (27, .bipush 65, 2, 0, 0, 0, 0), (29, .aload_n 0, 1, 0, 0, 0, 0), (30, .getfield 98, 3, 10, 14, 4, 0)],
  [(33, .bipush 37, 2, 0, 0, 0, 0), (35, .iaload, 1, 0, 0, 0, 0), (36, .iastore, 1, 0, 0, 0, 0), (37, .iconst 0, 1, 0, 0, 0, 0), (38, .istore_n 1, 1, 0, 0, 0, 0), (39, .iload_n 1, 1, 0, 0, 0, 0), (40, .iconst 5, 1, 0, 0, 0, 0), (41, .if_icmp .ge 45, 3, 0, 0, 0, 0), (44, .aload_n 0, 1, 0, 0, 0, 0), (45, .getfield 98, 3, 10, 14, 4, 0)],
  [(48, .bipush 67, 2, 0, 0, 0, 0), (50, .iload_n 1, 1, 0, 0, 0, 0), (51, .iadd, 1, 0, 0, 0, 0), (52, .aload_n 0, 1, 0, 0, 0, 0), (53, .getfield 98, 3, 10, 14, 4, 0), (56, .bipush 38, 2, 0, 0, 0, 0), (58, .iload_n 1, 1, 0, 0, 0, 0), (59, .iadd, 1, 0, 0, 0, 0), (60, .iaload, 1, 0, 0, 0, 0), (61, .iastore, 1, 0, 0, 0, 0), (62, .aload_n 0, 1, 0, 0, 0, 0), (63, .getfield 98, 3, 10, 14, 4, 0)],
  [(66, .bipush 72, 2, 0, 0, 0, 0), (68, .iload_n 1, 1, 0, 0, 0, 0), (69, .iadd, 1, 0, 0, 0, 0), (70, .aload_n 0, 1, 0, 0, 0, 0), (71, .getfield 98, 3, 10, 14, 4, 0), (74, .bipush 43, 2, 0, 0, 0, 0), (76, .iload_n 1, 1, 0, 0, 0, 0), (77, .iadd, 1, 0, 0, 0, 0), (78, .iaload, 1, 0, 0, 0, 0), (79, .iastore, 1, 0, 0, 0, 0)],
  [(80, .iinc 1 1, 3, 0, 0, 0, 0), (83, .goto (-44), 3, 0, 0, 0, 0), (86, .iconst 0, 1, 0, 0, 0, 0), (87, .istore_n 1, 1, 0, 0, 0, 0), (88, .iload_n 1, 1, 0, 0, 0, 0), (89, .bipush 8, 2, 0, 0, 0, 0), (91, .if_icmp .ge 45, 3, 0, 0, 0, 0), (94, .aload_n 0, 1, 0, 0, 0, 0), (95, .getfield 98, 3, 10, 14, 4, 0)],
  [(98, .bipush 77, 2, 0, 0, 0, 0), (100, .iload_n 1, 1, 0, 0, 0, 0), (101, .iadd, 1, 0, 0, 0, 0), (102, .aload_n 0, 1, 0, 0, 0, 0), (103, .getfield 98, 3, 10, 14, 4, 0), (106, .bipush 48, 2, 0, 0, 0, 0), (108, .iload_n 1, 1, 0, 0, 0, 0), (109, .iadd, 1, 0, 0, 0, 0), (110, .iaload, 1, 0, 0, 0, 0), (111, .iastore, 1, 0, 0, 0, 0)],
  [(112, .aload_n 0, 1, 0, 0, 0, 0), (113, .getfield 98, 3, 10, 14, 4, 0), (116, .bipush 101, 2, 0, 0, 0, 0), (118, .iload_n 1, 1, 0, 0, 0, 0), (119, .iadd, 1, 0, 0, 0, 0), (120, .aload_n 0, 1, 0, 0, 0, 0), (121, .getfield 98, 3, 10, 14, 4, 0), (124, .bipush 56, 2, 0, 0, 0, 0), (126, .iload_n 1, 1, 0, 0, 0, 0), (127, .iadd, 1, 0, 0, 0, 0)],
  [(128, .iaload, 1, 0, 0, 0, 0), (129, .iastore, 1, 0, 0, 0, 0), (130, .iinc 1 1, 3, 0, 0, 0, 0), (133, .goto (-45), 3, 0, 0, 0, 0), (136, .return_, 1, 0, 0, 0, 0)]]
/-- LostKeysModel.startSo()V -/
def rx_m251 : rx_Md := (yX10_startSo, cX10_startSo, 2, none, 1, 1, 0, 0, rx_t251)
def rx_t252 : List (List rx_E) := [
  [(0, .iconst 0, 1, 0, 0, 0, 0), (1, .istore_n 2, 1, 0, 0, 0, 0), (2, .iload_n 2, 1, 0, 0, 0, 0), (3, .bipush 61, 2, 0, 0, 0, 0), (5, .if_icmp .ge 41, 3, 0, 0, 0, 0), (8, .aload_n 0, 1, 0, 0, 0, 0), (9, .getfield 98, 3, 10, 14, 4, 0), (12, .bipush 64, 2, 0, 0, 0, 0), (14, .iload_n 2, 1, 0, 0, 0, 0), (15, .iadd, 1, 0, 0, 0, 0)],
  [(16, .iaload, 1, 0, 0, 0, 0), (17, .istore_n 3, 1, 0, 0, 0, 0), (18, .aload_n 0, 1, 0, 0, 0, 0), (19, .getfield 98, 3, 10, 14, 4, 0), (22, .bipush 64, 2, 0, 0, 0, 0), (24, .iload_n 2, 1, 0, 0, 0, 0), (25, .iadd, 1, 0, 0, 0, 0), (26, .aload_n 0, 1, 0, 0, 0, 0), (27, .getfield 110, 3, 10, 18, 4, 0), (30, .iload_n 2, 1, 0, 0, 0, 0), (31, .iaload, 1, 0, 0, 0, 0)],
  [(32, .iastore, 1, 0, 0, 0, 0), (33, .aload_n 0, 1, 0, 0, 0, 0), (34, .getfield 110, 3, 10, 18, 4, 0), (37, .iload_n 2, 1, 0, 0, 0, 0), (38, .iload_n 3, 1, 0, 0, 0, 0), (39, .iastore, 1, 0, 0, 0, 0), (40, .iinc 2 1, 3, 0, 0, 0, 0), (43, .goto (-41), 3, 0, 0, 0, 0), (46, .iload_n 1, 1, 0, 0, 0, 0), (47, .ifCond .ne 4, 3, 0, 0, 0, 0)],
  [(50, .return_, 1, 0, 0, 0, 0), (51, .aload_n 0, 1, 0, 0, 0, 0), (52, .invokevirtual 294, 3, 248, 1, 14, 0), (55, .aload_n 0, 1, 0, 0, 0, 0), (56, .invokevirtual 339, 3, 255, 1, 14, 0), (59, .return_, 1, 0, 0, 0, 0)]]
/-- LostKeysModel.stay(Z)V -/
def rx_m252 : rx_Md := (yX10_stay, cX10_stay, 4, none, 2, 1, 0, 0, rx_t252)
def rx_t253 : List (List rx_E) := [
  [(0, .aload_n 0, 1, 0, 0, 0, 0), (1, .iconst 0, 1, 0, 0, 0, 0), (2, .putfield 1, 3, 10, 0, 0, 0), (5, .aload_n 0, 1, 0, 0, 0, 0), (6, .iload_n 1, 1, 0, 0, 0, 0), (7, .invokevirtual 260, 3, 178, 2, 14, 0), (10, .ifCond .ne 5, 3, 0, 0, 0, 0), (13, .iconst (-1), 1, 0, 0, 0, 0), (14, .ireturn, 1, 0, 0, 0, 0), (15, .aload_n 0, 1, 0, 0, 0, 0)],
  [(16, .iconst 0, 1, 0, 0, 0, 0), (17, .putfield 365, 3, 10, 39, 0, 0), (20, .aload_n 0, 1, 0, 0, 0, 0), (21, .aload_n 0, 1, 0, 0, 0, 0), (22, .getfield 113, 3, 10, 19, 4, 0), (25, .bipush 17, 2, 0, 0, 0, 0), (27, .iload_n 1, 1, 0, 0, 0, 0), (28, .iadd, 1, 0, 0, 0, 0), (29, .laload, 1, 0, 0, 0, 0), (30, .invokevirtual 368, 3, 271, 2, 14, 0)],
  [(33, .aload_n 0, 1, 0, 0, 0, 0), (34, .iload_n 1, 1, 0, 0, 0, 0), (35, .invokevirtual 242, 3, 194, 2, 14, 0), (38, .ifCond .eq 82, 3, 0, 0, 0, 0), (41, .aload_n 0, 1, 0, 0, 0, 0), (42, .bipush 108, 2, 0, 0, 0, 0), (44, .bipush 105, 2, 0, 0, 0, 0), (46, .bipush 101, 2, 0, 0, 0, 0)],
  [(48, .bipush 115, 2, 0, 0, 0, 0), (50, .iconst 0, 1, 0, 0, 0, 0), (51, .iconst 0, 1, 0, 0, 0, 0), (52, .invokestatic 58, 3, 249, 6, 0, 0), (55, .invokevirtual 375, 3, 270, 2, 14, 0), (58, .aload_n 0, 1, 0, 0, 0, 0), (59, .bipush 97, 2, 0, 0, 0, 0), (61, .bipush 116, 2, 0, 0, 0, 0), (63, .iconst 0, 1, 0, 0, 0, 0)],
  [(64, .iconst 0, 1, 0, 0, 0, 0), (65, .iconst 0, 1, 0, 0, 0, 0), (66, .iconst 0, 1, 0, 0, 0, 0), (67, .invokestatic 58, 3, 249, 6, 0, 0), (70, .invokevirtual 375, 3, 270, 2, 14, 0), (73, .aload_n 0, 1, 0, 0, 0, 0), (74, .bipush 32, 2, 0, 0, 0, 0), (76, .invokevirtual 372, 3, 269, 2, 14, 0), (79, .aload_n 0, 1, 0, 0, 0, 0)],
  [(80, .bipush 48, 2, 0, 0, 0, 0), (82, .aload_n 0, 1, 0, 0, 0, 0), (83, .getfield 98, 3, 10, 14, 4, 0), (86, .bipush 85, 2, 0, 0, 0, 0), (88, .iload_n 1, 1, 0, 0, 0, 0), (89, .iadd, 1, 0, 0, 0, 0), (90, .iaload, 1, 0, 0, 0, 0), (91, .iadd, 1, 0, 0, 0, 0), (92, .invokevirtual 372, 3, 269, 2, 14, 0), (95, .aload_n 0, 1, 0, 0, 0, 0)],
  [(96, .bipush 32, 2, 0, 0, 0, 0), (98, .invokevirtual 372, 3, 269, 2, 14, 0), (101, .aload_n 0, 1, 0, 0, 0, 0), (102, .bipush 48, 2, 0, 0, 0, 0), (104, .aload_n 0, 1, 0, 0, 0, 0), (105, .getfield 98, 3, 10, 14, 4, 0), (108, .bipush 93, 2, 0, 0, 0, 0), (110, .iload_n 1, 1, 0, 0, 0, 0), (111, .iadd, 1, 0, 0, 0, 0)],
  [(112, .iaload, 1, 0, 0, 0, 0), (113, .iadd, 1, 0, 0, 0, 0), (114, .invokevirtual 372, 3, 269, 2, 14, 0), (117, .goto 48, 3, 0, 0, 0, 0), (120, .aload_n 0, 1, 0, 0, 0, 0), (121, .bipush 17, 2, 0, 0, 0, 0), (123, .invokestatic 62, 3, 268, 1, 0, 0), (126, .invokevirtual 375, 3, 270, 2, 14, 0)],
  [(129, .aload_n 0, 1, 0, 0, 0, 0), (130, .bipush 98, 2, 0, 0, 0, 0), (132, .bipush 121, 2, 0, 0, 0, 0), (134, .iconst 0, 1, 0, 0, 0, 0), (135, .iconst 0, 1, 0, 0, 0, 0), (136, .iconst 0, 1, 0, 0, 0, 0), (137, .iconst 0, 1, 0, 0, 0, 0), (138, .invokestatic 58, 3, 249, 6, 0, 0), (141, .invokevirtual 375, 3, 270, 2, 14, 0)],
  [(144, .aload_n 0, 1, 0, 0, 0, 0), (145, .aload_n 0, 1, 0, 0, 0, 0), (146, .getfield 113, 3, 10, 19, 4, 0), (149, .bipush 12, 2, 0, 0, 0, 0), (151, .aload_n 0, 1, 0, 0, 0, 0), (152, .getfield 98, 3, 10, 14, 4, 0), (155, .bipush 77, 2, 0, 0, 0, 0), (157, .iload_n 1, 1, 0, 0, 0, 0), (158, .iadd, 1, 0, 0, 0, 0), (159, .iaload, 1, 0, 0, 0, 0)],
  [(160, .iadd, 1, 0, 0, 0, 0), (161, .laload, 1, 0, 0, 0, 0), (162, .invokevirtual 375, 3, 270, 2, 14, 0), (165, .aload_n 0, 1, 0, 0, 0, 0), (166, .iload_n 1, 1, 0, 0, 0, 0), (167, .invokevirtual 272, 3, 164, 2, 14, 0), (170, .istore_n 2, 1, 0, 0, 0, 0), (171, .iload_n 2, 1, 0, 0, 0, 0), (172, .ifCond .ne 8, 3, 0, 0, 0, 0), (175, .aload_n 0, 1, 0, 0, 0, 0)],
  [(176, .getfield 365, 3, 10, 39, 0, 0), (179, .ireturn, 1, 0, 0, 0, 0), (180, .iconst 0, 1, 0, 0, 0, 0), (181, .istore_n 3, 1, 0, 0, 0, 0), (182, .iload_n 2, 1, 0, 0, 0, 0), (183, .iload_n 3, 1, 0, 0, 0, 0), (184, .invokestatic 257, 3, 170, 2, 0, 0), (187, .ifCond .ne 9, 3, 0, 0, 0, 0), (190, .iinc 3 1, 3, 0, 0, 0, 0)],
  [(193, .goto (-11), 3, 0, 0, 0, 0), (196, .aload_n 0, 1, 0, 0, 0, 0), (197, .bipush 18, 2, 0, 0, 0, 0), (199, .invokestatic 62, 3, 268, 1, 0, 0), (202, .invokevirtual 375, 3, 270, 2, 14, 0), (205, .aload_n 0, 1, 0, 0, 0, 0), (206, .aload_n 0, 1, 0, 0, 0, 0), (207, .getfield 113, 3, 10, 19, 4, 0)],
  [(210, .bipush 6, 2, 0, 0, 0, 0), (212, .iload_n 3, 1, 0, 0, 0, 0), (213, .iadd, 1, 0, 0, 0, 0), (214, .laload, 1, 0, 0, 0, 0), (215, .invokevirtual 375, 3, 270, 2, 14, 0), (218, .aload_n 0, 1, 0, 0, 0, 0), (219, .getfield 365, 3, 10, 39, 0, 0), (222, .ireturn, 1, 0, 0, 0, 0)]]
/-- LostKeysModel.tag(I)I -/
def rx_m253 : rx_Md := (yX10_tag, cX10_tag, 4, (some .int), 2, 1, 0, 0, rx_t253)
def rx_t254 : List (List rx_E) := [
  [(0, .aload_n 0, 1, 0, 0, 0, 0), (1, .getfield 11, 3, 10, 2, 0, 0), (4, .istore_n 1, 1, 0, 0, 0, 0), (5, .aload_n 0, 1, 0, 0, 0, 0), (6, .iconst 0, 1, 0, 0, 0, 0), (7, .putfield 11, 3, 10, 2, 0, 0), (10, .iload_n 1, 1, 0, 0, 0, 0), (11, .ireturn, 1, 0, 0, 0, 0)]]
/-- LostKeysModel.take()I -/
def rx_m254 : rx_Md := (yX10_take, cX10_take, 2, (some .int), 1, 1, 0, 0, rx_t254)
def rx_t255 : List (List rx_E) := [
  [(0, .iconst 0, 1, 0, 0, 0, 0), (1, .istore_n 1, 1, 0, 0, 0, 0), (2, .iload_n 1, 1, 0, 0, 0, 0), (3, .bipush 61, 2, 0, 0, 0, 0), (5, .if_icmp .ge 24, 3, 0, 0, 0, 0), (8, .aload_n 0, 1, 0, 0, 0, 0), (9, .getfield 98, 3, 10, 14, 4, 0), (12, .bipush 64, 2, 0, 0, 0, 0), (14, .iload_n 1, 1, 0, 0, 0, 0), (15, .iadd, 1, 0, 0, 0, 0)],
  [(16, .aload_n 0, 1, 0, 0, 0, 0), (17, .getfield 110, 3, 10, 18, 4, 0), (20, .iload_n 1, 1, 0, 0, 0, 0), (21, .iaload, 1, 0, 0, 0, 0), (22, .iastore, 1, 0, 0, 0, 0), (23, .iinc 1 1, 3, 0, 0, 0, 0), (26, .goto (-24), 3, 0, 0, 0, 0), (29, .return_, 1, 0, 0, 0, 0)]]
/-- LostKeysModel.takeBack()V -/
def rx_m255 : rx_Md := (yX10_takeBack, cX10_takeBack, 2, none, 1, 1, 0, 0, rx_t255)
def rx_t256 : List (List rx_E) := [
  [(0, .iload_n 1, 1, 0, 0, 0, 0), (1, .aload_n 0, 1, 0, 0, 0, 0), (2, .getfield 18, 3, 10, 3, 0, 0), (5, .if_icmp .ge 12, 3, 0, 0, 0, 0), (8, .aload_n 0, 1, 0, 0, 0, 0), (9, .getfield 7, 3, 10, 1, 4, 0), (12, .iload_n 1, 1, 0, 0, 0, 0), (13, .iaload, 1, 0, 0, 0, 0), (14, .goto 4, 3, 0, 0, 0, 0)],
  [(17, .iconst 0, 1, 0, 0, 0, 0), (18, .ireturn, 1, 0, 0, 0, 0)]]
/-- LostKeysModel.tapeAt(I)I -/
def rx_m256 : rx_Md := (yX10_tapeAt, cX10_tapeAt, 2, (some .int), 2, 1, 0, 0, rx_t256)
def rx_t257 : List (List rx_E) := [
  [(0, .aload_n 0, 1, 0, 0, 0, 0), (1, .iconst 0, 1, 0, 0, 0, 0), (2, .putfield 1, 3, 10, 0, 0, 0), (5, .aload_n 0, 1, 0, 0, 0, 0), (6, .getfield 151, 3, 10, 35, 0, 0), (9, .ireturn, 1, 0, 0, 0, 0)]]
/-- LostKeysModel.tells()I -/
def rx_m257 : rx_Md := (yX10_tells, cX10_tells, 1, (some .int), 1, 1, 0, 0, rx_t257)
def rx_t258 : List (List rx_E) := [
  [(0, .aload_n 0, 1, 0, 0, 0, 0), (1, .iconst 0, 1, 0, 0, 0, 0), (2, .putfield 1, 3, 10, 0, 0, 0), (5, .aload_n 0, 1, 0, 0, 0, 0), (6, .getfield 418, 3, 10, 44, 2, 0), (9, .ifCond .eq 21, 3, 0, 0, 0, 0), (12, .iload_n 1, 1, 0, 0, 0, 0), (13, .iconst 0, 1, 0, 0, 0, 0), (14, .iconst 3, 1, 0, 0, 0, 0), (15, .invokestatic 75, 3, 177, 3, 0, 0)],
  [(18, .ifCond .eq 12, 3, 0, 0, 0, 0), (21, .aload_n 0, 1, 0, 0, 0, 0), (22, .getfield 166, 3, 10, 42, 4, 0), (25, .iload_n 1, 1, 0, 0, 0, 0), (26, .iaload, 1, 0, 0, 0, 0), (27, .goto 4, 3, 0, 0, 0, 0), (30, .iconst (-1), 1, 0, 0, 0, 0), (31, .ireturn, 1, 0, 0, 0, 0)]]
/-- LostKeysModel.told(I)I -/
def rx_m258 : rx_Md := (yX10_told, cX10_told, 2, (some .int), 2, 1, 0, 0, rx_t258)
def rx_t259 : List (List rx_E) := [
  [(0, .aload_n 0, 1, 0, 0, 0, 0), (1, .sipush 900, 3, 0, 0, 0, 0), (4, .invokevirtual 227, 3, 145, 2, 14, 0), (7, .aload_n 0, 1, 0, 0, 0, 0), (8, .invokevirtual 172, 3, 250, 1, 14, 0), (11, .iconst 0, 1, 0, 0, 0, 0), (12, .istore_n 1, 1, 0, 0, 0, 0), (13, .aload_n 0, 1, 0, 0, 0, 0), (14, .getfield 30, 3, 10, 7, 0, 0)],
  [(17, .ifCond .eq 30, 3, 0, 0, 0, 0), (20, .aload_n 0, 1, 0, 0, 0, 0), (21, .invokevirtual 230, 3, 231, 1, 14, 0), (24, .ifCond .eq 10, 3, 0, 0, 0, 0), (27, .aload_n 0, 1, 0, 0, 0, 0), (28, .invokevirtual 233, 3, 226, 1, 14, 0), (31, .ifCond .ne 10, 3, 0, 0, 0, 0)],
  [(34, .iconst (-1), 1, 0, 0, 0, 0), (35, .aload_n 0, 1, 0, 0, 0, 0), (36, .getfield 69, 3, 10, 11, 0, 0), (39, .isub, 1, 0, 0, 0, 0), (40, .ireturn, 1, 0, 0, 0, 0), (41, .iinc 1 1, 3, 0, 0, 0, 0), (44, .goto (-31), 3, 0, 0, 0, 0), (47, .iconst 0, 1, 0, 0, 0, 0)],
  [(48, .istore_n 2, 1, 0, 0, 0, 0), (49, .iload_n 2, 1, 0, 0, 0, 0), (50, .bipush 64, 2, 0, 0, 0, 0), (52, .if_icmp .ge 21, 3, 0, 0, 0, 0), (55, .aload_n 0, 1, 0, 0, 0, 0), (56, .getfield 98, 3, 10, 14, 4, 0), (59, .iload_n 2, 1, 0, 0, 0, 0), (60, .aload_n 0, 1, 0, 0, 0, 0), (61, .getfield 101, 3, 10, 15, 4, 0)],
  [(64, .iload_n 2, 1, 0, 0, 0, 0), (65, .iaload, 1, 0, 0, 0, 0), (66, .iastore, 1, 0, 0, 0, 0), (67, .iinc 2 1, 3, 0, 0, 0, 0), (70, .goto (-21), 3, 0, 0, 0, 0), (73, .iconst 0, 1, 0, 0, 0, 0), (74, .istore_n 2, 1, 0, 0, 0, 0), (75, .iload_n 2, 1, 0, 0, 0, 0), (76, .bipush 25, 2, 0, 0, 0, 0), (78, .if_icmp .ge 21, 3, 0, 0, 0, 0)],
  [(81, .aload_n 0, 1, 0, 0, 0, 0), (82, .getfield 113, 3, 10, 19, 4, 0), (85, .iload_n 2, 1, 0, 0, 0, 0), (86, .aload_n 0, 1, 0, 0, 0, 0), (87, .getfield 117, 3, 10, 20, 4, 0), (90, .iload_n 2, 1, 0, 0, 0, 0), (91, .laload, 1, 0, 0, 0, 0), (92, .lastore, 1, 0, 0, 0, 0), (93, .iinc 2 1, 3, 0, 0, 0, 0)],
  [(96, .goto (-21), 3, 0, 0, 0, 0), (99, .aload_n 0, 1, 0, 0, 0, 0), (100, .invokevirtual 236, 3, 251, 1, 14, 0), (103, .aload_n 0, 1, 0, 0, 0, 0), (104, .iconst 0, 1, 0, 0, 0, 0), (105, .putfield 239, 3, 10, 24, 0, 0), (108, .iload_n 1, 1, 0, 0, 0, 0), (109, .ireturn, 1, 0, 0, 0, 0)]]
/-- LostKeysModel.town()I -/
def rx_m259 : rx_Md := (yX10_town, cX10_town, 3, (some .int), 1, 1, 0, 0, rx_t259)
def rx_t260 : List (List rx_E) := [
  [(0, .aload_n 0, 1, 0, 0, 0, 0), (1, .iconst 0, 1, 0, 0, 0, 0), (2, .putfield 1, 3, 10, 0, 0, 0), (5, .aload_n 0, 1, 0, 0, 0, 0), (6, .iload_n 1, 1, 0, 0, 0, 0), (7, .invokevirtual 275, 3, 181, 2, 14, 0), (10, .ifCond .eq 30, 3, 0, 0, 0, 0), (13, .aload_n 0, 1, 0, 0, 0, 0), (14, .iload_n 2, 1, 0, 0, 0, 0), (15, .invokevirtual 260, 3, 178, 2, 14, 0)],
  [(18, .ifCond .eq 22, 3, 0, 0, 0, 0), (21, .aload_n 0, 1, 0, 0, 0, 0), (22, .iload_n 3, 1, 0, 0, 0, 0), (23, .invokevirtual 254, 3, 180, 2, 14, 0), (26, .ifCond .eq 14, 3, 0, 0, 0, 0), (29, .aload_n 0, 1, 0, 0, 0, 0), (30, .iconst 2, 1, 0, 0, 0, 0), (31, .iload_n 1, 1, 0, 0, 0, 0)],
  [(32, .iload_n 2, 1, 0, 0, 0, 0), (33, .iload_n 3, 1, 0, 0, 0, 0), (34, .invokevirtual 301, 3, 142, 5, 14, 0), (37, .goto 4, 3, 0, 0, 0, 0), (40, .iconst (-1), 1, 0, 0, 0, 0), (41, .ireturn, 1, 0, 0, 0, 0)]]
/-- LostKeysModel.tries(III)I -/
def rx_m260 : rx_Md := (yX10_tries, cX10_tries, 4, (some .int), 4, 1, 0, 0, rx_t260)
def rx_t261 : List (List rx_E) := [
  [(0, .aload_n 0, 1, 0, 0, 0, 0), (1, .iconst 0, 1, 0, 0, 0, 0), (2, .putfield 1, 3, 10, 0, 0, 0), (5, .iload_n 1, 1, 0, 0, 0, 0), (6, .ifCond .ne 10, 3, 0, 0, 0, 0), (9, .aload_n 0, 1, 0, 0, 0, 0), (10, .getfield 154, 3, 10, 36, 0, 0), (13, .goto 16, 3, 0, 0, 0, 0)],
  [(16, .iload_n 1, 1, 0, 0, 0, 0), (17, .iconst 1, 1, 0, 0, 0, 0), (18, .if_icmp .ne 10, 3, 0, 0, 0, 0), (21, .aload_n 0, 1, 0, 0, 0, 0), (22, .getfield 157, 3, 10, 37, 0, 0), (25, .goto 4, 3, 0, 0, 0, 0), (28, .iconst (-1), 1, 0, 0, 0, 0), (29, .ireturn, 1, 0, 0, 0, 0)]]
/-- LostKeysModel.twin(I)I -/
def rx_m261 : rx_Md := (yX10_twin, cX10_twin, 2, (some .int), 2, 1, 0, 0, rx_t261)
def rx_t262 : List (List rx_E) := [
  [(0, .aload_n 0, 1, 0, 0, 0, 0), (1, .iconst 0, 1, 0, 0, 0, 0), (2, .putfield 1, 3, 10, 0, 0, 0), (5, .iconst (-1), 1, 0, 0, 0, 0), (6, .istore_n 1, 1, 0, 0, 0, 0), (7, .iconst 0, 1, 0, 0, 0, 0), (8, .istore_n 2, 1, 0, 0, 0, 0), (9, .iload_n 2, 1, 0, 0, 0, 0), (10, .aload_n 0, 1, 0, 0, 0, 0), (11, .getfield 98, 3, 10, 14, 4, 0), (14, .iconst 3, 1, 0, 0, 0, 0), (15, .iaload, 1, 0, 0, 0, 0)],
  [(16, .if_icmp .ge 80, 3, 0, 0, 0, 0), (19, .iload_n 2, 1, 0, 0, 0, 0), (20, .iconst 1, 1, 0, 0, 0, 0), (21, .iadd, 1, 0, 0, 0, 0), (22, .istore_n 3, 1, 0, 0, 0, 0), (23, .iload_n 3, 1, 0, 0, 0, 0), (24, .aload_n 0, 1, 0, 0, 0, 0), (25, .getfield 98, 3, 10, 14, 4, 0), (28, .iconst 3, 1, 0, 0, 0, 0), (29, .iaload, 1, 0, 0, 0, 0), (30, .if_icmp .ge 60, 3, 0, 0, 0, 0)],
  [(33, .aload_n 0, 1, 0, 0, 0, 0), (34, .getfield 98, 3, 10, 14, 4, 0), (37, .bipush 101, 2, 0, 0, 0, 0), (39, .iload_n 2, 1, 0, 0, 0, 0), (40, .iadd, 1, 0, 0, 0, 0), (41, .iaload, 1, 0, 0, 0, 0), (42, .aload_n 0, 1, 0, 0, 0, 0), (43, .getfield 98, 3, 10, 14, 4, 0), (46, .bipush 101, 2, 0, 0, 0, 0)],
  [(48, .iload_n 3, 1, 0, 0, 0, 0), (49, .iadd, 1, 0, 0, 0, 0), (50, .iaload, 1, 0, 0, 0, 0), (51, .ixor, 1, 0, 0, 0, 0), (52, .invokestatic 247, 3, 146, 1, 0, 0), (55, .istore 4, 2, 0, 0, 0, 0), (57, .iload_n 1, 1, 0, 0, 0, 0), (58, .iconst (-1), 1, 0, 0, 0, 0), (59, .if_icmp .eq 12, 3, 0, 0, 0, 0), (62, .iload 4, 2, 0, 0, 0, 0)],
  [(64, .iload_n 1, 1, 0, 0, 0, 0), (65, .if_icmp .lt 6, 3, 0, 0, 0, 0), (68, .goto 16, 3, 0, 0, 0, 0), (71, .iload 4, 2, 0, 0, 0, 0), (73, .istore_n 1, 1, 0, 0, 0, 0), (74, .aload_n 0, 1, 0, 0, 0, 0), (75, .iload_n 2, 1, 0, 0, 0, 0), (76, .putfield 154, 3, 10, 36, 0, 0), (79, .aload_n 0, 1, 0, 0, 0, 0)],
  [(80, .iload_n 3, 1, 0, 0, 0, 0), (81, .putfield 157, 3, 10, 37, 0, 0), (84, .iinc 3 1, 3, 0, 0, 0, 0), (87, .goto (-64), 3, 0, 0, 0, 0), (90, .iinc 2 1, 3, 0, 0, 0, 0), (93, .goto (-84), 3, 0, 0, 0, 0)],
  [(96, .iload_n 1, 1, 0, 0, 0, 0), (97, .ireturn, 1, 0, 0, 0, 0)]]
/-- LostKeysModel.twins()I -/
def rx_m262 : rx_Md := (yX10_twins, cX10_twins, 5, (some .int), 1, 1, 0, 0, rx_t262)
def rx_t263 : List (List rx_E) := [
  [(0, .aload_n 0, 1, 0, 0, 0, 0), (1, .iconst 0, 1, 0, 0, 0, 0), (2, .putfield 1, 3, 10, 0, 0, 0), (5, .aload_n 0, 1, 0, 0, 0, 0), (6, .getfield 239, 3, 10, 24, 0, 0), (9, .ifCond .ne 5, 3, 0, 0, 0, 0), (12, .iconst (-1), 1, 0, 0, 0, 0), (13, .ireturn, 1, 0, 0, 0, 0), (14, .aload_n 0, 1, 0, 0, 0, 0), (15, .dup, 1, 0, 0, 0, 0)],
  [(16, .getfield 239, 3, 10, 24, 0, 0), (19, .iconst 1, 1, 0, 0, 0, 0), (20, .isub, 1, 0, 0, 0, 0), (21, .putfield 239, 3, 10, 24, 0, 0), (24, .iconst 0, 1, 0, 0, 0, 0), (25, .istore_n 1, 1, 0, 0, 0, 0), (26, .iload_n 1, 1, 0, 0, 0, 0), (27, .bipush 61, 2, 0, 0, 0, 0), (29, .if_icmp .ge 32, 3, 0, 0, 0, 0)],
  [(32, .aload_n 0, 1, 0, 0, 0, 0), (33, .getfield 98, 3, 10, 14, 4, 0), (36, .bipush 64, 2, 0, 0, 0, 0), (38, .iload_n 1, 1, 0, 0, 0, 0), (39, .iadd, 1, 0, 0, 0, 0), (40, .aload_n 0, 1, 0, 0, 0, 0), (41, .getfield 107, 3, 10, 17, 4, 0), (44, .bipush 61, 2, 0, 0, 0, 0), (46, .aload_n 0, 1, 0, 0, 0, 0), (47, .getfield 239, 3, 10, 24, 0, 0)],
  [(50, .imul, 1, 0, 0, 0, 0), (51, .iload_n 1, 1, 0, 0, 0, 0), (52, .iadd, 1, 0, 0, 0, 0), (53, .iaload, 1, 0, 0, 0, 0), (54, .iastore, 1, 0, 0, 0, 0), (55, .iinc 1 1, 3, 0, 0, 0, 0), (58, .goto (-32), 3, 0, 0, 0, 0), (61, .aload_n 0, 1, 0, 0, 0, 0), (62, .getfield 239, 3, 10, 24, 0, 0)],
  [(65, .ireturn, 1, 0, 0, 0, 0)]]
/-- LostKeysModel.undo()I -/
def rx_m263 : rx_Md := (yX10_undo, cX10_undo, 2, (some .int), 1, 1, 0, 0, rx_t263)
def rx_t264 : List (List rx_E) := [
  [(0, .aload_n 0, 1, 0, 0, 0, 0), (1, .iconst 0, 1, 0, 0, 0, 0), (2, .putfield 1, 3, 10, 0, 0, 0), (5, .aload_n 0, 1, 0, 0, 0, 0), (6, .iload_n 1, 1, 0, 0, 0, 0), (7, .invokevirtual 275, 3, 181, 2, 14, 0), (10, .ifCond .eq 23, 3, 0, 0, 0, 0), (13, .aload_n 0, 1, 0, 0, 0, 0), (14, .iload_n 2, 1, 0, 0, 0, 0), (15, .iload_n 3, 1, 0, 0, 0, 0)],
  [(16, .invokevirtual 304, 3, 173, 3, 14, 0), (19, .ifCond .eq 14, 3, 0, 0, 0, 0), (22, .aload_n 0, 1, 0, 0, 0, 0), (23, .iconst 3, 1, 0, 0, 0, 0), (24, .iload_n 1, 1, 0, 0, 0, 0), (25, .iload_n 2, 1, 0, 0, 0, 0), (26, .iload_n 3, 1, 0, 0, 0, 0), (27, .invokevirtual 301, 3, 142, 5, 14, 0), (30, .goto 4, 3, 0, 0, 0, 0)],
  [(33, .iconst (-1), 1, 0, 0, 0, 0), (34, .ireturn, 1, 0, 0, 0, 0)]]
/-- LostKeysModel.walk(III)I -/
def rx_m264 : rx_Md := (yX10_walk, cX10_walk, 4, (some .int), 4, 1, 0, 0, rx_t264)
def rx_t265 : List (List rx_E) := [
  [(0, .aload_n 0, 1, 0, 0, 0, 0), (1, .iconst 0, 1, 0, 0, 0, 0), (2, .putfield 1, 3, 10, 0, 0, 0), (5, .aload_n 0, 1, 0, 0, 0, 0), (6, .iload_n 1, 1, 0, 0, 0, 0), (7, .invokevirtual 345, 3, 185, 2, 14, 0), (10, .ifCond .eq 21, 3, 0, 0, 0, 0), (13, .aload_n 0, 1, 0, 0, 0, 0), (14, .iload_n 2, 1, 0, 0, 0, 0), (15, .invokevirtual 345, 3, 185, 2, 14, 0)],
  [(18, .ifCond .eq 13, 3, 0, 0, 0, 0), (21, .iload_n 3, 1, 0, 0, 0, 0), (22, .iconst 0, 1, 0, 0, 0, 0), (23, .bipush 60, 2, 0, 0, 0, 0), (25, .invokestatic 75, 3, 177, 3, 0, 0), (28, .ifCond .ne 5, 3, 0, 0, 0, 0), (31, .iconst (-1), 1, 0, 0, 0, 0)],
  [(32, .ireturn, 1, 0, 0, 0, 0), (33, .aload_n 0, 1, 0, 0, 0, 0), (34, .iload_n 3, 1, 0, 0, 0, 0), (35, .invokevirtual 342, 3, 214, 2, 14, 0), (38, .istore 4, 2, 0, 0, 0, 0), (40, .aload_n 0, 1, 0, 0, 0, 0), (41, .iload_n 2, 1, 0, 0, 0, 0), (42, .iload 4, 2, 0, 0, 0, 0), (44, .invokevirtual 348, 3, 192, 3, 14, 0), (47, .aload_n 0, 1, 0, 0, 0, 0)],
  [(48, .getfield 145, 3, 10, 32, 4, 0), (51, .iload_n 1, 1, 0, 0, 0, 0), (52, .iaload, 1, 0, 0, 0, 0), (53, .sipush 1000, 3, 0, 0, 0, 0), (56, .if_icmp .lt 5, 3, 0, 0, 0, 0), (59, .iconst (-1), 1, 0, 0, 0, 0), (60, .ireturn, 1, 0, 0, 0, 0), (61, .aload_n 0, 1, 0, 0, 0, 0), (62, .aload_n 0, 1, 0, 0, 0, 0), (63, .getfield 145, 3, 10, 32, 4, 0)],
  [(66, .iload_n 1, 1, 0, 0, 0, 0), (67, .iaload, 1, 0, 0, 0, 0), (68, .putfield 352, 3, 10, 34, 0, 0), (71, .iload_n 1, 1, 0, 0, 0, 0), (72, .istore 5, 2, 0, 0, 0, 0), (74, .iconst 0, 1, 0, 0, 0, 0), (75, .istore 6, 2, 0, 0, 0, 0), (77, .iload 6, 2, 0, 0, 0, 0), (79, .aload_n 0, 1, 0, 0, 0, 0)],
  [(80, .getfield 352, 3, 10, 34, 0, 0), (83, .if_icmp .ge 84, 3, 0, 0, 0, 0), (86, .iconst 0, 1, 0, 0, 0, 0), (87, .istore 7, 2, 0, 0, 0, 0), (89, .iload 4, 2, 0, 0, 0, 0), (91, .iload 7, 2, 0, 0, 0, 0), (93, .invokestatic 257, 3, 170, 2, 0, 0)],
  [(96, .ifCond .eq 40, 3, 0, 0, 0, 0), (99, .aload_n 0, 1, 0, 0, 0, 0), (100, .iload 7, 2, 0, 0, 0, 0), (102, .iload 5, 2, 0, 0, 0, 0), (104, .invokevirtual 355, 3, 216, 3, 14, 0), (107, .iconst (-1), 1, 0, 0, 0, 0), (108, .if_icmp .eq 28, 3, 0, 0, 0, 0), (111, .aload_n 0, 1, 0, 0, 0, 0)],
  [(112, .getfield 145, 3, 10, 32, 4, 0), (115, .aload_n 0, 1, 0, 0, 0, 0), (116, .iload 7, 2, 0, 0, 0, 0), (118, .iload 5, 2, 0, 0, 0, 0), (120, .invokevirtual 355, 3, 216, 3, 14, 0), (123, .iaload, 1, 0, 0, 0, 0), (124, .aload_n 0, 1, 0, 0, 0, 0), (125, .getfield 145, 3, 10, 32, 4, 0)],
  [(128, .iload 5, 2, 0, 0, 0, 0), (130, .iaload, 1, 0, 0, 0, 0), (131, .iconst 1, 1, 0, 0, 0, 0), (132, .isub, 1, 0, 0, 0, 0), (133, .if_icmp .eq 9, 3, 0, 0, 0, 0), (136, .iinc 7 1, 3, 0, 0, 0, 0), (139, .goto (-50), 3, 0, 0, 0, 0), (142, .aload_n 0, 1, 0, 0, 0, 0), (143, .getfield 148, 3, 10, 33, 4, 0)],
  [(146, .iload 6, 2, 0, 0, 0, 0), (148, .iload 7, 2, 0, 0, 0, 0), (150, .iastore, 1, 0, 0, 0, 0), (151, .aload_n 0, 1, 0, 0, 0, 0), (152, .iload 7, 2, 0, 0, 0, 0), (154, .iload 5, 2, 0, 0, 0, 0), (156, .invokevirtual 355, 3, 216, 3, 14, 0), (159, .istore 5, 2, 0, 0, 0, 0)],
  [(161, .iinc 6 1, 3, 0, 0, 0, 0), (164, .goto (-87), 3, 0, 0, 0, 0), (167, .aload_n 0, 1, 0, 0, 0, 0), (168, .getfield 352, 3, 10, 34, 0, 0), (171, .ireturn, 1, 0, 0, 0, 0)]]
/-- LostKeysModel.way(III)I -/
def rx_m265 : rx_Md := (yX10_way, cX10_way, 8, (some .int), 4, 1, 0, 0, rx_t265)
def rx_t266 : List (List rx_E) := [
  [(0, .aload_n 0, 1, 0, 0, 0, 0), (1, .iconst 0, 1, 0, 0, 0, 0), (2, .putfield 1, 3, 10, 0, 0, 0), (5, .iload_n 1, 1, 0, 0, 0, 0), (6, .iconst 0, 1, 0, 0, 0, 0), (7, .aload_n 0, 1, 0, 0, 0, 0), (8, .getfield 352, 3, 10, 34, 0, 0), (11, .iconst 1, 1, 0, 0, 0, 0), (12, .isub, 1, 0, 0, 0, 0), (13, .invokestatic 75, 3, 177, 3, 0, 0)],
  [(16, .ifCond .eq 12, 3, 0, 0, 0, 0), (19, .aload_n 0, 1, 0, 0, 0, 0), (20, .getfield 148, 3, 10, 33, 4, 0), (23, .iload_n 1, 1, 0, 0, 0, 0), (24, .iaload, 1, 0, 0, 0, 0), (25, .goto 4, 3, 0, 0, 0, 0), (28, .iconst (-1), 1, 0, 0, 0, 0), (29, .ireturn, 1, 0, 0, 0, 0)]]
/-- LostKeysModel.wayAt(I)I -/
def rx_m266 : rx_Md := (yX10_wayAt, cX10_wayAt, 2, (some .int), 2, 1, 0, 0, rx_t266)
def rx_t267 : List (List rx_E) := [
  [(0, .iload_n 1, 1, 0, 0, 0, 0), (1, .tableswitch 111 0 2 #[27, 46, 64], 27, 0, 0, 0, 0)],
  [(28, .aload_n 0, 1, 0, 0, 0, 0), (29, .getfield 98, 3, 10, 14, 4, 0)],
  [(32, .bipush 77, 2, 0, 0, 0, 0), (34, .iload_n 3, 1, 0, 0, 0, 0), (35, .iadd, 1, 0, 0, 0, 0), (36, .iaload, 1, 0, 0, 0, 0), (37, .iload_n 2, 1, 0, 0, 0, 0), (38, .if_icmp .ne 7, 3, 0, 0, 0, 0), (41, .iconst 0, 1, 0, 0, 0, 0), (42, .goto 4, 3, 0, 0, 0, 0), (45, .iconst 1, 1, 0, 0, 0, 0), (46, .ireturn, 1, 0, 0, 0, 0), (47, .aload_n 0, 1, 0, 0, 0, 0)],
  [(48, .iload_n 2, 1, 0, 0, 0, 0), (49, .invokevirtual 281, 3, 202, 2, 14, 0), (52, .iload_n 3, 1, 0, 0, 0, 0), (53, .invokestatic 257, 3, 170, 2, 0, 0), (56, .ifCond .eq 7, 3, 0, 0, 0, 0), (59, .iconst 0, 1, 0, 0, 0, 0), (60, .goto 4, 3, 0, 0, 0, 0), (63, .iconst 1, 1, 0, 0, 0, 0)],
  [(64, .ireturn, 1, 0, 0, 0, 0), (65, .aload_n 0, 1, 0, 0, 0, 0), (66, .getfield 98, 3, 10, 14, 4, 0), (69, .bipush 77, 2, 0, 0, 0, 0), (71, .iload_n 3, 1, 0, 0, 0, 0), (72, .iadd, 1, 0, 0, 0, 0), (73, .iaload, 1, 0, 0, 0, 0), (74, .iload_n 2, 1, 0, 0, 0, 0), (75, .if_icmp .eq 7, 3, 0, 0, 0, 0), (78, .iconst 1, 1, 0, 0, 0, 0), (79, .goto 32, 3, 0, 0, 0, 0)],
  [(82, .aload_n 0, 1, 0, 0, 0, 0), (83, .iload_n 2, 1, 0, 0, 0, 0), (84, .iload 4, 2, 0, 0, 0, 0), (86, .invokevirtual 287, 3, 176, 3, 14, 0), (89, .ifCond .ne 7, 3, 0, 0, 0, 0), (92, .iconst 2, 1, 0, 0, 0, 0), (93, .goto 18, 3, 0, 0, 0, 0)],
  [(96, .aload_n 0, 1, 0, 0, 0, 0), (97, .iload_n 3, 1, 0, 0, 0, 0), (98, .iload 4, 2, 0, 0, 0, 0), (100, .invokevirtual 250, 3, 212, 3, 14, 0), (103, .ifCond .le 7, 3, 0, 0, 0, 0), (106, .iconst 3, 1, 0, 0, 0, 0), (107, .goto 4, 3, 0, 0, 0, 0), (110, .iconst 0, 1, 0, 0, 0, 0), (111, .ireturn, 1, 0, 0, 0, 0)],
  [(112, .aload_n 0, 1, 0, 0, 0, 0), (113, .getfield 98, 3, 10, 14, 4, 0), (116, .bipush 67, 2, 0, 0, 0, 0), (118, .iload_n 2, 1, 0, 0, 0, 0), (119, .iadd, 1, 0, 0, 0, 0), (120, .iaload, 1, 0, 0, 0, 0), (121, .iload_n 3, 1, 0, 0, 0, 0), (122, .isub, 1, 0, 0, 0, 0), (123, .invokestatic 245, 3, 247, 1, 0, 0), (126, .aload_n 0, 1, 0, 0, 0, 0), (127, .getfield 98, 3, 10, 14, 4, 0)],
  [(130, .bipush 72, 2, 0, 0, 0, 0), (132, .iload_n 2, 1, 0, 0, 0, 0), (133, .iadd, 1, 0, 0, 0, 0), (134, .iaload, 1, 0, 0, 0, 0), (135, .iload 4, 2, 0, 0, 0, 0), (137, .isub, 1, 0, 0, 0, 0), (138, .invokestatic 245, 3, 247, 1, 0, 0), (141, .iadd, 1, 0, 0, 0, 0), (142, .iconst 1, 1, 0, 0, 0, 0), (143, .if_icmp .ne 7, 3, 0, 0, 0, 0)],
  [(146, .iconst 0, 1, 0, 0, 0, 0), (147, .goto 4, 3, 0, 0, 0, 0), (150, .iconst 1, 1, 0, 0, 0, 0), (151, .ireturn, 1, 0, 0, 0, 0)]]
/-- LostKeysModel.why(IIII)I -/
def rx_m267 : rx_Md := (yX10_why, cX10_why, 5, (some .int), 5, 1, 0, 0, rx_t267)
def rx_t268 : List (List rx_E) := [
  [(0, .iload_n 0, 1, 0, 0, 0, 0), (1, .tableswitch 427 0 22 #[107, 122, 136, 150, 164, 177, 190, 204, 219, 234, 249, 264, 277, 289, 302, 315, 330, 342, 355, 369, 383, 397, 411], 107, 0, 0, 0, 0)],
  [],
  [],
  [],
  [],
  [],
  [(108, .bipush 102, 2, 0, 0, 0, 0), (110, .bipush 105, 2, 0, 0, 0, 0)],
  [(112, .bipush 101, 2, 0, 0, 0, 0), (114, .bipush 108, 2, 0, 0, 0, 0), (116, .bipush 100, 2, 0, 0, 0, 0), (118, .iconst 0, 1, 0, 0, 0, 0), (119, .invokestatic 58, 3, 249, 6, 0, 0), (122, .lreturn, 1, 0, 0, 0, 0), (123, .bipush 114, 2, 0, 0, 0, 0), (125, .bipush 111, 2, 0, 0, 0, 0), (127, .bipush 111, 2, 0, 0, 0, 0)],
  [(129, .bipush 109, 2, 0, 0, 0, 0), (131, .iconst 0, 1, 0, 0, 0, 0), (132, .iconst 0, 1, 0, 0, 0, 0), (133, .invokestatic 58, 3, 249, 6, 0, 0), (136, .lreturn, 1, 0, 0, 0, 0), (137, .bipush 108, 2, 0, 0, 0, 0), (139, .bipush 111, 2, 0, 0, 0, 0), (141, .bipush 99, 2, 0, 0, 0, 0), (143, .bipush 107, 2, 0, 0, 0, 0)],
  [(145, .iconst 0, 1, 0, 0, 0, 0), (146, .iconst 0, 1, 0, 0, 0, 0), (147, .invokestatic 58, 3, 249, 6, 0, 0), (150, .lreturn, 1, 0, 0, 0, 0), (151, .bipush 111, 2, 0, 0, 0, 0), (153, .bipush 112, 2, 0, 0, 0, 0), (155, .bipush 101, 2, 0, 0, 0, 0), (157, .bipush 110, 2, 0, 0, 0, 0), (159, .iconst 0, 1, 0, 0, 0, 0)],
  [(160, .iconst 0, 1, 0, 0, 0, 0), (161, .invokestatic 58, 3, 249, 6, 0, 0), (164, .lreturn, 1, 0, 0, 0, 0), (165, .bipush 109, 2, 0, 0, 0, 0), (167, .bipush 97, 2, 0, 0, 0, 0), (169, .bipush 110, 2, 0, 0, 0, 0), (171, .iconst 0, 1, 0, 0, 0, 0), (172, .iconst 0, 1, 0, 0, 0, 0), (173, .iconst 0, 1, 0, 0, 0, 0), (174, .invokestatic 58, 3, 249, 6, 0, 0)],
  [(177, .lreturn, 1, 0, 0, 0, 0), (178, .bipush 107, 2, 0, 0, 0, 0), (180, .bipush 101, 2, 0, 0, 0, 0), (182, .bipush 121, 2, 0, 0, 0, 0), (184, .iconst 0, 1, 0, 0, 0, 0), (185, .iconst 0, 1, 0, 0, 0, 0), (186, .iconst 0, 1, 0, 0, 0, 0), (187, .invokestatic 58, 3, 249, 6, 0, 0), (190, .lreturn, 1, 0, 0, 0, 0), (191, .bipush 115, 2, 0, 0, 0, 0)],
  [(193, .bipush 108, 2, 0, 0, 0, 0), (195, .bipush 111, 2, 0, 0, 0, 0), (197, .bipush 119, 2, 0, 0, 0, 0), (199, .iconst 0, 1, 0, 0, 0, 0), (200, .iconst 0, 1, 0, 0, 0, 0), (201, .invokestatic 58, 3, 249, 6, 0, 0), (204, .lreturn, 1, 0, 0, 0, 0), (205, .bipush 100, 2, 0, 0, 0, 0), (207, .bipush 114, 2, 0, 0, 0, 0)],
  [(209, .bipush 111, 2, 0, 0, 0, 0), (211, .bipush 112, 2, 0, 0, 0, 0), (213, .bipush 115, 2, 0, 0, 0, 0), (215, .iconst 0, 1, 0, 0, 0, 0), (216, .invokestatic 58, 3, 249, 6, 0, 0), (219, .lreturn, 1, 0, 0, 0, 0), (220, .bipush 112, 2, 0, 0, 0, 0), (222, .bipush 105, 2, 0, 0, 0, 0)],
  [(224, .bipush 99, 2, 0, 0, 0, 0), (226, .bipush 107, 2, 0, 0, 0, 0), (228, .bipush 115, 2, 0, 0, 0, 0), (230, .iconst 0, 1, 0, 0, 0, 0), (231, .invokestatic 58, 3, 249, 6, 0, 0), (234, .lreturn, 1, 0, 0, 0, 0), (235, .bipush 116, 2, 0, 0, 0, 0), (237, .bipush 114, 2, 0, 0, 0, 0), (239, .bipush 105, 2, 0, 0, 0, 0)],
  [(241, .bipush 101, 2, 0, 0, 0, 0), (243, .bipush 115, 2, 0, 0, 0, 0), (245, .iconst 0, 1, 0, 0, 0, 0), (246, .invokestatic 58, 3, 249, 6, 0, 0), (249, .lreturn, 1, 0, 0, 0, 0), (250, .bipush 119, 2, 0, 0, 0, 0), (252, .bipush 97, 2, 0, 0, 0, 0), (254, .bipush 108, 2, 0, 0, 0, 0)],
  [(256, .bipush 107, 2, 0, 0, 0, 0), (258, .bipush 115, 2, 0, 0, 0, 0), (260, .iconst 0, 1, 0, 0, 0, 0), (261, .invokestatic 58, 3, 249, 6, 0, 0), (264, .lreturn, 1, 0, 0, 0, 0), (265, .bipush 100, 2, 0, 0, 0, 0), (267, .bipush 97, 2, 0, 0, 0, 0), (269, .bipush 121, 2, 0, 0, 0, 0), (271, .iconst 0, 1, 0, 0, 0, 0)],
  [(272, .iconst 0, 1, 0, 0, 0, 0), (273, .iconst 0, 1, 0, 0, 0, 0), (274, .invokestatic 58, 3, 249, 6, 0, 0), (277, .lreturn, 1, 0, 0, 0, 0), (278, .bipush 111, 2, 0, 0, 0, 0), (280, .bipush 114, 2, 0, 0, 0, 0), (282, .iconst 0, 1, 0, 0, 0, 0), (283, .iconst 0, 1, 0, 0, 0, 0), (284, .iconst 0, 1, 0, 0, 0, 0), (285, .iconst 0, 1, 0, 0, 0, 0), (286, .invokestatic 58, 3, 249, 6, 0, 0)],
  [(289, .lreturn, 1, 0, 0, 0, 0), (290, .bipush 97, 2, 0, 0, 0, 0), (292, .bipush 110, 2, 0, 0, 0, 0), (294, .bipush 100, 2, 0, 0, 0, 0), (296, .iconst 0, 1, 0, 0, 0, 0), (297, .iconst 0, 1, 0, 0, 0, 0), (298, .iconst 0, 1, 0, 0, 0, 0), (299, .invokestatic 58, 3, 249, 6, 0, 0), (302, .lreturn, 1, 0, 0, 0, 0), (303, .bipush 110, 2, 0, 0, 0, 0)],
  [(305, .bipush 111, 2, 0, 0, 0, 0), (307, .bipush 116, 2, 0, 0, 0, 0), (309, .iconst 0, 1, 0, 0, 0, 0), (310, .iconst 0, 1, 0, 0, 0, 0), (311, .iconst 0, 1, 0, 0, 0, 0), (312, .invokestatic 58, 3, 249, 6, 0, 0), (315, .lreturn, 1, 0, 0, 0, 0), (316, .bipush 108, 2, 0, 0, 0, 0), (318, .bipush 121, 2, 0, 0, 0, 0)],
  [(320, .bipush 105, 2, 0, 0, 0, 0), (322, .bipush 110, 2, 0, 0, 0, 0), (324, .bipush 103, 2, 0, 0, 0, 0), (326, .iconst 0, 1, 0, 0, 0, 0), (327, .invokestatic 58, 3, 249, 6, 0, 0), (330, .lreturn, 1, 0, 0, 0, 0), (331, .bipush 111, 2, 0, 0, 0, 0), (333, .bipush 102, 2, 0, 0, 0, 0), (335, .iconst 0, 1, 0, 0, 0, 0)],
  [(336, .iconst 0, 1, 0, 0, 0, 0), (337, .iconst 0, 1, 0, 0, 0, 0), (338, .iconst 0, 1, 0, 0, 0, 0), (339, .invokestatic 58, 3, 249, 6, 0, 0), (342, .lreturn, 1, 0, 0, 0, 0), (343, .bipush 104, 2, 0, 0, 0, 0), (345, .bipush 97, 2, 0, 0, 0, 0), (347, .bipush 100, 2, 0, 0, 0, 0), (349, .iconst 0, 1, 0, 0, 0, 0), (350, .iconst 0, 1, 0, 0, 0, 0), (351, .iconst 0, 1, 0, 0, 0, 0)],
  [(352, .invokestatic 58, 3, 249, 6, 0, 0), (355, .lreturn, 1, 0, 0, 0, 0), (356, .bipush 102, 2, 0, 0, 0, 0), (358, .bipush 105, 2, 0, 0, 0, 0), (360, .bipush 116, 2, 0, 0, 0, 0), (362, .bipush 115, 2, 0, 0, 0, 0), (364, .iconst 0, 1, 0, 0, 0, 0), (365, .iconst 0, 1, 0, 0, 0, 0), (366, .invokestatic 58, 3, 249, 6, 0, 0)],
  [(369, .lreturn, 1, 0, 0, 0, 0), (370, .bipush 110, 2, 0, 0, 0, 0), (372, .bipush 101, 2, 0, 0, 0, 0), (374, .bipush 97, 2, 0, 0, 0, 0), (376, .bipush 114, 2, 0, 0, 0, 0), (378, .iconst 0, 1, 0, 0, 0, 0), (379, .iconst 0, 1, 0, 0, 0, 0), (380, .invokestatic 58, 3, 249, 6, 0, 0), (383, .lreturn, 1, 0, 0, 0, 0)],
  [(384, .bipush 119, 2, 0, 0, 0, 0), (386, .bipush 97, 2, 0, 0, 0, 0), (388, .bipush 114, 2, 0, 0, 0, 0), (390, .bipush 100, 2, 0, 0, 0, 0), (392, .iconst 0, 1, 0, 0, 0, 0), (393, .iconst 0, 1, 0, 0, 0, 0), (394, .invokestatic 58, 3, 249, 6, 0, 0), (397, .lreturn, 1, 0, 0, 0, 0), (398, .bipush 108, 2, 0, 0, 0, 0)],
  [(400, .bipush 97, 2, 0, 0, 0, 0), (402, .bipush 105, 2, 0, 0, 0, 0), (404, .bipush 110, 2, 0, 0, 0, 0), (406, .iconst 0, 1, 0, 0, 0, 0), (407, .iconst 0, 1, 0, 0, 0, 0), (408, .invokestatic 58, 3, 249, 6, 0, 0), (411, .lreturn, 1, 0, 0, 0, 0), (412, .bipush 116, 2, 0, 0, 0, 0), (414, .bipush 117, 2, 0, 0, 0, 0)],
  [(416, .bipush 114, 2, 0, 0, 0, 0), (418, .bipush 110, 2, 0, 0, 0, 0), (420, .bipush 101, 2, 0, 0, 0, 0), (422, .bipush 100, 2, 0, 0, 0, 0), (424, .invokestatic 58, 3, 249, 6, 0, 0), (427, .lreturn, 1, 0, 0, 0, 0), (428, .bipush 110, 2, 0, 0, 0, 0), (430, .bipush 117, 2, 0, 0, 0, 0)],
  [(432, .bipush 109, 2, 0, 0, 0, 0), (434, .bipush 98, 2, 0, 0, 0, 0), (436, .bipush 101, 2, 0, 0, 0, 0), (438, .bipush 114, 2, 0, 0, 0, 0), (440, .invokestatic 58, 3, 249, 6, 0, 0), (443, .lreturn, 1, 0, 0, 0, 0)]]
/-- LostKeysModel.wordOf(I)J -/
def rx_m268 : rx_Md := (yX10_wordOf, cX10_wordOf, 1, (some .long), 1, 0, 0, 0, rx_t268)
def rx_t269 : List (List rx_E) := [
  [(0, .aload_n 0, 1, 0, 0, 0, 0), (1, .getfield 160, 3, 10, 38, 4, 0), (4, .aload_n 0, 1, 0, 0, 0, 0), (5, .getfield 365, 3, 10, 39, 0, 0), (8, .iload_n 1, 1, 0, 0, 0, 0), (9, .iastore, 1, 0, 0, 0, 0), (10, .aload_n 0, 1, 0, 0, 0, 0), (11, .dup, 1, 0, 0, 0, 0), (12, .getfield 365, 3, 10, 39, 0, 0), (15, .iconst 1, 1, 0, 0, 0, 0)],
  [(16, .iadd, 1, 0, 0, 0, 0), (17, .putfield 365, 3, 10, 39, 0, 0), (20, .return_, 1, 0, 0, 0, 0)]]
/-- LostKeysModel.write(I)V -/
def rx_m269 : rx_Md := (yX10_write, cX10_write, 2, none, 2, 1, 0, 0, rx_t269)
def rx_t270 : List (List rx_E) := [
  [(0, .aload_n 0, 1, 0, 0, 0, 0), (1, .bipush 32, 2, 0, 0, 0, 0), (3, .invokevirtual 372, 3, 269, 2, 14, 0), (6, .aload_n 0, 1, 0, 0, 0, 0), (7, .lload_n 1, 1, 0, 0, 0, 0), (8, .invokevirtual 368, 3, 271, 2, 14, 0), (11, .return_, 1, 0, 0, 0, 0)]]
/-- LostKeysModel.writeNext(J)V -/
def rx_m270 : rx_Md := (yX10_writeNext, cX10_writeNext, 3, none, 2, 1, 0, 0, rx_t270)
def rx_t271 : List (List rx_E) := [
  [(0, .lload_n 1, 1, 0, 0, 0, 0), (1, .ldc2_w 54, 3, 0, 0, 1, 27), (4, .lcmp, 1, 0, 0, 0, 0), (5, .ifCond .lt 12, 3, 0, 0, 0, 0), (8, .aload_n 0, 1, 0, 0, 0, 0), (9, .lload_n 1, 1, 0, 0, 0, 0), (10, .ldc2_w 54, 3, 0, 0, 1, 27), (13, .ldiv, 1, 0, 0, 0, 0), (14, .invokevirtual 368, 3, 271, 2, 14, 0)],
  [(17, .aload_n 0, 1, 0, 0, 0, 0), (18, .bipush 96, 2, 0, 0, 0, 0), (20, .lload_n 1, 1, 0, 0, 0, 0), (21, .ldc2_w 54, 3, 0, 0, 1, 27), (24, .lrem, 1, 0, 0, 0, 0), (25, .l2i, 1, 0, 0, 0, 0), (26, .iadd, 1, 0, 0, 0, 0), (27, .invokevirtual 372, 3, 269, 2, 14, 0), (30, .return_, 1, 0, 0, 0, 0)]]
/-- LostKeysModel.writeWord(J)V -/
def rx_m271 : rx_Md := (yX10_writeWord, cX10_writeWord, 3, none, 2, 1, 0, 0, rx_t271)
def rx_t272 : List (List rx_E) := [
  [(0, .aload_n 0, 1, 0, 0, 0, 0), (1, .iload_n 1, 1, 0, 0, 0, 0), (2, .invokevirtual 242, 3, 194, 2, 14, 0), (5, .ifCond .eq 15, 3, 0, 0, 0, 0), (8, .aload_n 0, 1, 0, 0, 0, 0), (9, .getfield 98, 3, 10, 14, 4, 0), (12, .bipush 85, 2, 0, 0, 0, 0), (14, .iload_n 1, 1, 0, 0, 0, 0), (15, .iadd, 1, 0, 0, 0, 0)],
  [(16, .iaload, 1, 0, 0, 0, 0), (17, .goto 20, 3, 0, 0, 0, 0), (20, .aload_n 0, 1, 0, 0, 0, 0), (21, .getfield 98, 3, 10, 14, 4, 0), (24, .bipush 67, 2, 0, 0, 0, 0), (26, .aload_n 0, 1, 0, 0, 0, 0), (27, .getfield 98, 3, 10, 14, 4, 0), (30, .bipush 77, 2, 0, 0, 0, 0)],
  [(32, .iload_n 1, 1, 0, 0, 0, 0), (33, .iadd, 1, 0, 0, 0, 0), (34, .iaload, 1, 0, 0, 0, 0), (35, .iadd, 1, 0, 0, 0, 0), (36, .iaload, 1, 0, 0, 0, 0), (37, .ireturn, 1, 0, 0, 0, 0)]]
/-- LostKeysModel.xOf(I)I -/
def rx_m272 : rx_Md := (yX10_xOf, cX10_xOf, 2, (some .int), 2, 1, 0, 0, rx_t272)
def rx_t273 : List (List rx_E) := [
  [(0, .aload_n 0, 1, 0, 0, 0, 0), (1, .iload_n 1, 1, 0, 0, 0, 0), (2, .invokevirtual 242, 3, 194, 2, 14, 0), (5, .ifCond .eq 15, 3, 0, 0, 0, 0), (8, .aload_n 0, 1, 0, 0, 0, 0), (9, .getfield 98, 3, 10, 14, 4, 0), (12, .bipush 93, 2, 0, 0, 0, 0), (14, .iload_n 1, 1, 0, 0, 0, 0), (15, .iadd, 1, 0, 0, 0, 0)],
  [(16, .iaload, 1, 0, 0, 0, 0), (17, .goto 20, 3, 0, 0, 0, 0), (20, .aload_n 0, 1, 0, 0, 0, 0), (21, .getfield 98, 3, 10, 14, 4, 0), (24, .bipush 72, 2, 0, 0, 0, 0), (26, .aload_n 0, 1, 0, 0, 0, 0), (27, .getfield 98, 3, 10, 14, 4, 0), (30, .bipush 77, 2, 0, 0, 0, 0)],
  [(32, .iload_n 1, 1, 0, 0, 0, 0), (33, .iadd, 1, 0, 0, 0, 0), (34, .iaload, 1, 0, 0, 0, 0), (35, .iadd, 1, 0, 0, 0, 0), (36, .iaload, 1, 0, 0, 0, 0), (37, .ireturn, 1, 0, 0, 0, 0)]]
/-- LostKeysModel.yOf(I)I -/
def rx_m273 : rx_Md := (yX10_yOf, cX10_yOf, 2, (some .int), 2, 1, 0, 0, rx_t273)
def rx_t274 : List (List rx_E) := [
  [(0, .iload_n 0, 1, 0, 0, 0, 0), (1, .iload_n 0, 1, 0, 0, 0, 0), (2, .iconst 1, 1, 0, 0, 0, 0), (3, .iushr, 1, 0, 0, 0, 0), (4, .ldc_w 265, 3, 0, 0, 1, 1431655765), (7, .iand, 1, 0, 0, 0, 0), (8, .isub, 1, 0, 0, 0, 0), (9, .istore_n 0, 1, 0, 0, 0, 0), (10, .iload_n 0, 1, 0, 0, 0, 0), (11, .ldc_w 266, 3, 0, 0, 1, 858993459), (14, .iand, 1, 0, 0, 0, 0), (15, .iload_n 0, 1, 0, 0, 0, 0)],
  [(16, .iconst 2, 1, 0, 0, 0, 0), (17, .iushr, 1, 0, 0, 0, 0), (18, .ldc_w 266, 3, 0, 0, 1, 858993459), (21, .iand, 1, 0, 0, 0, 0), (22, .iadd, 1, 0, 0, 0, 0), (23, .istore_n 0, 1, 0, 0, 0, 0), (24, .iload_n 0, 1, 0, 0, 0, 0), (25, .iload_n 0, 1, 0, 0, 0, 0), (26, .iconst 4, 1, 0, 0, 0, 0), (27, .iushr, 1, 0, 0, 0, 0), (28, .iadd, 1, 0, 0, 0, 0), (29, .ldc_w 267, 3, 0, 0, 1, 252645135)],
  [(32, .iand, 1, 0, 0, 0, 0), (33, .istore_n 0, 1, 0, 0, 0, 0), (34, .iload_n 0, 1, 0, 0, 0, 0), (35, .iload_n 0, 1, 0, 0, 0, 0), (36, .bipush 8, 2, 0, 0, 0, 0), (38, .iushr, 1, 0, 0, 0, 0), (39, .iadd, 1, 0, 0, 0, 0), (40, .istore_n 0, 1, 0, 0, 0, 0), (41, .iload_n 0, 1, 0, 0, 0, 0), (42, .iload_n 0, 1, 0, 0, 0, 0), (43, .bipush 16, 2, 0, 0, 0, 0), (45, .iushr, 1, 0, 0, 0, 0), (46, .iadd, 1, 0, 0, 0, 0), (47, .istore_n 0, 1, 0, 0, 0, 0)],
  [(48, .iload_n 0, 1, 0, 0, 0, 0), (49, .bipush 63, 2, 0, 0, 0, 0), (51, .iand, 1, 0, 0, 0, 0), (52, .ireturn, 1, 0, 0, 0, 0)]]
/-- java/lang/Integer.bitCount(I)I -/
def rx_m274 : rx_Md := (yJ6_bitCount_0f7a4, cJ6_bitCount_0f7a4, 1, (some .int), 1, 0, 0, 0, rx_t274)
def rx_t275 : List (List rx_E) := [
  [(0, .iload_n 0, 1, 0, 0, 0, 0), (1, .iconst (-1), 1, 0, 0, 0, 0), (2, .ixor, 1, 0, 0, 0, 0), (3, .iload_n 0, 1, 0, 0, 0, 0), (4, .iconst 1, 1, 0, 0, 0, 0), (5, .isub, 1, 0, 0, 0, 0), (6, .iand, 1, 0, 0, 0, 0), (7, .istore_n 0, 1, 0, 0, 0, 0), (8, .iload_n 0, 1, 0, 0, 0, 0), (9, .ifCond .gt 8, 3, 0, 0, 0, 0), (12, .iload_n 0, 1, 0, 0, 0, 0), (13, .bipush 32, 2, 0, 0, 0, 0), (15, .iand, 1, 0, 0, 0, 0)],
  [(16, .ireturn, 1, 0, 0, 0, 0), (17, .iconst 1, 1, 0, 0, 0, 0), (18, .istore_n 1, 1, 0, 0, 0, 0), (19, .iload_n 0, 1, 0, 0, 0, 0), (20, .ldc_w 264, 3, 0, 0, 1, 65536), (23, .if_icmp .le 11, 3, 0, 0, 0, 0), (26, .iinc 1 16, 3, 0, 0, 0, 0), (29, .iload_n 0, 1, 0, 0, 0, 0), (30, .bipush 16, 2, 0, 0, 0, 0)],
  [(32, .iushr, 1, 0, 0, 0, 0), (33, .istore_n 0, 1, 0, 0, 0, 0), (34, .iload_n 0, 1, 0, 0, 0, 0), (35, .sipush 256, 3, 0, 0, 0, 0), (38, .if_icmp .le 11, 3, 0, 0, 0, 0), (41, .iinc 1 8, 3, 0, 0, 0, 0), (44, .iload_n 0, 1, 0, 0, 0, 0), (45, .bipush 8, 2, 0, 0, 0, 0), (47, .iushr, 1, 0, 0, 0, 0)],
  [(48, .istore_n 0, 1, 0, 0, 0, 0), (49, .iload_n 0, 1, 0, 0, 0, 0), (50, .bipush 16, 2, 0, 0, 0, 0), (52, .if_icmp .le 10, 3, 0, 0, 0, 0), (55, .iinc 1 4, 3, 0, 0, 0, 0), (58, .iload_n 0, 1, 0, 0, 0, 0), (59, .iconst 4, 1, 0, 0, 0, 0), (60, .iushr, 1, 0, 0, 0, 0), (61, .istore_n 0, 1, 0, 0, 0, 0), (62, .iload_n 0, 1, 0, 0, 0, 0), (63, .iconst 4, 1, 0, 0, 0, 0)],
  [(64, .if_icmp .le 10, 3, 0, 0, 0, 0), (67, .iinc 1 2, 3, 0, 0, 0, 0), (70, .iload_n 0, 1, 0, 0, 0, 0), (71, .iconst 2, 1, 0, 0, 0, 0), (72, .iushr, 1, 0, 0, 0, 0), (73, .istore_n 0, 1, 0, 0, 0, 0), (74, .iload_n 1, 1, 0, 0, 0, 0), (75, .iload_n 0, 1, 0, 0, 0, 0), (76, .iconst 1, 1, 0, 0, 0, 0), (77, .iushr, 1, 0, 0, 0, 0), (78, .iadd, 1, 0, 0, 0, 0), (79, .ireturn, 1, 0, 0, 0, 0)]]
/-- java/lang/Integer.numberOfTrailingZeros(I)I -/
def rx_m275 : rx_Md := (yJ6_numberOfTrailingZeros_0f7a4, cJ6_numberOfTrailingZeros_0f7a4, 2, (some .int), 1, 0, 0, 0, rx_t275)
def rx_t276 : List (List rx_E) := [
  [(0, .aload_n 0, 1, 0, 0, 0, 0), (1, .invokevirtual 492, 3, 279, 1, 3, 0), (4, .ifCond .eq 12, 3, 0, 0, 0, 0), (7, .aload_n 0, 1, 0, 0, 0, 0), (8, .getfield 9, 3, 99, 0, 0, 0), (11, .iload_n 1, 1, 0, 0, 0, 0), (12, .invokestatic 495, 3, 281, 2, 0, 0), (15, .ireturn, 1, 0, 0, 0, 0)],
  [(16, .aload_n 0, 1, 0, 0, 0, 0), (17, .getfield 9, 3, 99, 0, 0, 0), (20, .iload_n 1, 1, 0, 0, 0, 0), (21, .invokestatic 498, 3, 0, 2, 1, 0), (24, .ireturn, 1, 0, 0, 0, 0)]]
/-- java/lang/String.charAt(I)C -/
def rx_m276 : rx_Md := (yJ0_charAt_5068e, cJ0_charAt_5068e, 2, (some .char), 2, 1, 0, 0, rx_t276)
def rx_t277 : List (List rx_E) := [
  [(0, .iload_n 0, 1, 0, 0, 0, 0), (1, .iload_n 1, 1, 0, 0, 0, 0), (2, .getstatic 1053, 3, 9, 0, 2, 0), (5, .invokestatic 1059, 3, 283, 3, 0, 0), (8, .pop, 1, 0, 0, 0, 0), (9, .return_, 1, 0, 0, 0, 0)]]
/-- java/lang/String.checkIndex(II)V -/
def rx_m277 : rx_Md := (yJ0_checkIndex_df160, cJ0_checkIndex_df160, 2, none, 2, 0, 0, 0, rx_t277)
def rx_t278 : List (List rx_E) := [
  [(0, .getstatic 38, 3, 0, 0, 1, 1), (3, .ifCond .eq 10, 3, 0, 0, 0, 0), (6, .aload_n 0, 1, 0, 0, 0, 0), (7, .getfield 15, 3, 99, 1, 0, 0), (10, .goto 4, 3, 0, 0, 0, 0), (13, .iconst 1, 1, 0, 0, 0, 0), (14, .ireturn, 1, 0, 0, 0, 0)]]
/-- java/lang/String.coder()B -/
def rx_m278 : rx_Md := (yJ0_coder_7d493, cJ0_coder_7d493, 1, (some .byte), 1, 1, 0, 0, rx_t278)
def rx_t279 : List (List rx_E) := [
  [(0, .getstatic 38, 3, 0, 0, 1, 1), (3, .ifCond .eq 14, 3, 0, 0, 0, 0), (6, .aload_n 0, 1, 0, 0, 0, 0), (7, .getfield 15, 3, 99, 1, 0, 0), (10, .ifCond .ne 7, 3, 0, 0, 0, 0), (13, .iconst 1, 1, 0, 0, 0, 0), (14, .goto 4, 3, 0, 0, 0, 0)],
  [(17, .iconst 0, 1, 0, 0, 0, 0), (18, .ireturn, 1, 0, 0, 0, 0)]]
/-- java/lang/String.isLatin1()Z -/
def rx_m279 : rx_Md := (yJ0_isLatin1_aae02, cJ0_isLatin1_aae02, 1, (some .boolean), 1, 1, 0, 0, rx_t279)
def rx_t280 : List (List rx_E) := [
  [(0, .aload_n 0, 1, 0, 0, 0, 0), (1, .getfield 9, 3, 99, 0, 0, 0), (4, .arraylength, 1, 0, 0, 0, 0), (5, .aload_n 0, 1, 0, 0, 0, 0), (6, .invokevirtual 335, 3, 278, 1, 3, 0), (9, .ishr, 1, 0, 0, 0, 0), (10, .ireturn, 1, 0, 0, 0, 0)]]
/-- java/lang/String.length()I -/
def rx_m280 : rx_Md := (yJ0_length_8abf5, cJ0_length_8abf5, 1, (some .int), 1, 1, 0, 0, rx_t280)
def rx_t281 : List (List rx_E) := [
  [(0, .iload_n 1, 1, 0, 0, 0, 0), (1, .aload_n 0, 1, 0, 0, 0, 0), (2, .arraylength, 1, 0, 0, 0, 0), (3, .invokestatic 9, 3, 277, 2, 0, 0), (6, .aload_n 0, 1, 0, 0, 0, 0), (7, .iload_n 1, 1, 0, 0, 0, 0), (8, .baload, 1, 0, 0, 0, 0), (9, .sipush 255, 3, 0, 0, 0, 0), (12, .iand, 1, 0, 0, 0, 0), (13, .i2c, 1, 0, 0, 0, 0), (14, .ireturn, 1, 0, 0, 0, 0)]]
/-- java/lang/StringLatin1.charAt([BI)C -/
def rx_m281 : rx_Md := (yJ1_charAt_3b067, cJ1_charAt_3b067, 2, (some .char), 2, 0, 0, 0, rx_t281)
def rx_t282 : List (List rx_E) := [
  [(0, .iconst 0, 1, 0, 0, 0, 0), (1, .istore_n 2, 1, 0, 0, 0, 0), (2, .aload_n 0, 1, 0, 0, 0, 0), (3, .arraylength, 1, 0, 0, 0, 0), (4, .istore_n 3, 1, 0, 0, 0, 0), (5, .iload_n 2, 1, 0, 0, 0, 0), (6, .iload_n 3, 1, 0, 0, 0, 0), (7, .if_icmp .ge 13, 3, 0, 0, 0, 0), (10, .aload_n 0, 1, 0, 0, 0, 0), (11, .iload_n 2, 1, 0, 0, 0, 0), (12, .iload_n 1, 1, 0, 0, 0, 0), (13, .iastore, 1, 0, 0, 0, 0), (14, .iinc 2 1, 3, 0, 0, 0, 0)],
  [(17, .goto (-12), 3, 0, 0, 0, 0), (20, .return_, 1, 0, 0, 0, 0)]]
/-- java/util/Arrays.fill([II)V -/
def rx_m282 : rx_Md := (yJ7_fill_53178, cJ7_fill_53178, 4, none, 2, 0, 0, 0, rx_t282)
def rx_t283 : List (List rx_E) := [
  [(0, .iload_n 0, 1, 0, 0, 0, 0), (1, .ifCond .lt 8, 3, 0, 0, 0, 0), (4, .iload_n 0, 1, 0, 0, 0, 0), (5, .iload_n 1, 1, 0, 0, 0, 0), (6, .if_icmp .lt 10, 3, 0, 0, 0, 0), (9, .aload_n 2, 1, 0, 0, 0, 0), (10, .iload_n 0, 1, 0, 0, 0, 0), (11, .iload_n 1, 1, 0, 0, 0, 0), (12, .invokestatic 95, 3, 0, 3, 1, 0), (15, .athrow, 1, 0, 0, 0, 0)],
  [(16, .iload_n 0, 1, 0, 0, 0, 0), (17, .ireturn, 1, 0, 0, 0, 0)]]
/-- jdk/internal/util/Preconditions.checkIndex(IILjava/util/function/BiFunction;)I -/
def rx_m283 : rx_Md := (yJ3_checkIndex_8e157, cJ3_checkIndex_8e157, 3, (some .int), 3, 0, 0, 0, rx_t283)
def rx_tK0 : List (List rx_E) := [
  [(0, .aload_n 0, 1, 0, 0, 0, 0), (1, .getfield 19, 3, 9, 1, 4, 0), (4, .iconst 3, 1, 0, 0, 0, 0), (5, .iload_n 1, 1, 0, 0, 0, 0), (6, .invokevirtual 127, 3, 125, 3, 12, 0), (9, .ifCond .ne 11, 3, 0, 0, 0, 0)],
  [(20, .iload_n 2, 1, 0, 0, 0, 0), (21, .tableswitch 134 0 7 #[47, 57, 67, 77, 87, 97, 107, 117], 47, 0, 0, 0, 0)],
  [],
  [],
  [(68, .aload_n 0, 1, 0, 0, 0, 0), (69, .getfield 19, 3, 9, 1, 4, 0), (72, .getfield 153, 3, 8, 15, 4, 0), (75, .iload_n 1, 1, 0, 0, 0, 0), (76, .iaload, 1, 0, 0, 0, 0), (77, .ireturn, 1, 0, 0, 0, 0), (78, .aload_n 0, 1, 0, 0, 0, 0), (79, .getfield 29, 3, 9, 3, 4, 0)],
  [(82, .getfield 156, 3, 5, 6, 4, 0), (85, .iload_n 1, 1, 0, 0, 0, 0), (86, .iaload, 1, 0, 0, 0, 0), (87, .ireturn, 1, 0, 0, 0, 0), (88, .aload_n 0, 1, 0, 0, 0, 0), (89, .getfield 29, 3, 9, 3, 4, 0), (92, .getfield 159, 3, 5, 7, 4, 0), (95, .iload_n 1, 1, 0, 0, 0, 0)],
  [(96, .iaload, 1, 0, 0, 0, 0), (97, .ireturn, 1, 0, 0, 0, 0), (98, .aload_n 0, 1, 0, 0, 0, 0), (99, .getfield 29, 3, 9, 3, 4, 0), (102, .getfield 162, 3, 5, 8, 4, 0), (105, .iload_n 1, 1, 0, 0, 0, 0), (106, .iaload, 1, 0, 0, 0, 0), (107, .ireturn, 1, 0, 0, 0, 0), (108, .aload_n 0, 1, 0, 0, 0, 0), (109, .getfield 29, 3, 9, 3, 4, 0)],
  [(112, .getfield 165, 3, 5, 9, 4, 0), (115, .iload_n 1, 1, 0, 0, 0, 0), (116, .iaload, 1, 0, 0, 0, 0), (117, .ireturn, 1, 0, 0, 0, 0), (118, .aload_n 0, 1, 0, 0, 0, 0), (119, .getfield 29, 3, 9, 3, 4, 0), (122, .getfield 168, 3, 5, 10, 4, 0), (125, .iload_n 1, 1, 0, 0, 0, 0), (126, .iaload, 1, 0, 0, 0, 0), (127, .ireturn, 1, 0, 0, 0, 0)],
  [(128, .aload_n 0, 1, 0, 0, 0, 0), (129, .getfield 29, 3, 9, 3, 4, 0), (132, .getfield 171, 3, 5, 11, 4, 0), (135, .iload_n 1, 1, 0, 0, 0, 0), (136, .iaload, 1, 0, 0, 0, 0), (137, .ireturn, 1, 0, 0, 0, 0), (138, .aload_n 0, 1, 0, 0, 0, 0), (139, .getfield 19, 3, 9, 1, 4, 0), (142, .aload_n 0, 1, 0, 0, 0, 0), (143, .getfield 29, 3, 9, 3, 4, 0)],
  [(146, .getfield 165, 3, 5, 9, 4, 0), (149, .iload_n 1, 1, 0, 0, 0, 0), (150, .iaload, 1, 0, 0, 0, 0), (151, .invokevirtual 174, 3, 127, 2, 12, 0), (154, .ireturn, 1, 0, 0, 0, 0)]]
/-- the beginning of LostKeys.key(II)I -/
def rx_mK0 : rx_Md := (yX9_key, cX9_key, 3, (some .int), 3, 1, 1, 6, rx_tK0)
def rx_tK1 : List (List rx_E) := [
  [(0, .aload_n 0, 1, 0, 0, 0, 0), (1, .getfield 19, 3, 9, 1, 4, 0), (4, .iconst 2, 1, 0, 0, 0, 0), (5, .iload_n 1, 1, 0, 0, 0, 0), (6, .invokevirtual 127, 3, 125, 3, 12, 0), (9, .ifCond .ne 11, 3, 0, 0, 0, 0)],
  [(20, .iload_n 2, 1, 0, 0, 0, 0), (21, .tableswitch 77 0 3 #[31, 41, 51, 64], 31, 0, 0, 0, 0)],
  [],
  [(52, .aload_n 0, 1, 0, 0, 0, 0), (53, .getfield 29, 3, 9, 3, 4, 0), (56, .getfield 178, 3, 5, 4, 4, 0), (59, .iload_n 1, 1, 0, 0, 0, 0), (60, .iaload, 1, 0, 0, 0, 0), (61, .ireturn, 1, 0, 0, 0, 0), (62, .aload_n 0, 1, 0, 0, 0, 0), (63, .getfield 29, 3, 9, 3, 4, 0)],
  [(66, .getfield 181, 3, 5, 5, 4, 0), (69, .iload_n 1, 1, 0, 0, 0, 0), (70, .iaload, 1, 0, 0, 0, 0), (71, .ireturn, 1, 0, 0, 0, 0), (72, .aload_n 0, 1, 0, 0, 0, 0), (73, .getfield 29, 3, 9, 3, 4, 0), (76, .aload_n 0, 1, 0, 0, 0, 0), (77, .getfield 19, 3, 9, 1, 4, 0)],
  [(80, .iload_n 1, 1, 0, 0, 0, 0), (81, .invokevirtual 184, 3, 89, 3, 9, 0), (84, .ireturn, 1, 0, 0, 0, 0), (85, .aload_n 0, 1, 0, 0, 0, 0), (86, .getfield 29, 3, 9, 3, 4, 0), (89, .aload_n 0, 1, 0, 0, 0, 0), (90, .getfield 19, 3, 9, 1, 4, 0), (93, .iload_n 1, 1, 0, 0, 0, 0), (94, .invokevirtual 188, 3, 90, 3, 9, 0)],
  [(97, .ireturn, 1, 0, 0, 0, 0)]]
/-- the beginning of LostKeys.man(II)I -/
def rx_mK1 : rx_Md := (yX9_man, cX9_man, 3, (some .int), 3, 1, 1, 6, rx_tK1)
def rx_tK2 : List (List rx_E) := [
  [(0, .aload_n 3, 1, 0, 0, 0, 0), (1, .iconst 0, 1, 0, 0, 0, 0), (2, .aload_n 0, 1, 0, 0, 0, 0), (3, .iload_n 1, 1, 0, 0, 0, 0), (4, .iload_n 2, 1, 0, 0, 0, 0), (8, .i2l, 1, 0, 0, 0, 0), (9, .lastore, 1, 0, 0, 0, 0), (10, .goto 7, 3, 0, 0, 0, 0), (15, .iconst 1, 1, 0, 0, 0, 0)],
  [(16, .ireturn, 1, 0, 0, 0, 0), (17, .iconst 0, 1, 0, 0, 0, 0), (18, .ireturn, 1, 0, 0, 0, 0)]]
/-- the beginning of LostKeysLaw.key(LLostKeys;II[J)I -/
def rx_mK2 : rx_Md := (yL_key, cL_key, 5, (some .int), 4, 0, 1, 6, rx_tK2)
def rx_tK3 : List (List rx_E) := [
  [(0, .aload_n 3, 1, 0, 0, 0, 0), (1, .iconst 0, 1, 0, 0, 0, 0), (2, .aload_n 0, 1, 0, 0, 0, 0), (3, .iload_n 1, 1, 0, 0, 0, 0), (4, .iload_n 2, 1, 0, 0, 0, 0), (8, .i2l, 1, 0, 0, 0, 0), (9, .lastore, 1, 0, 0, 0, 0), (10, .goto 7, 3, 0, 0, 0, 0), (15, .iconst 1, 1, 0, 0, 0, 0)],
  [(16, .ireturn, 1, 0, 0, 0, 0), (17, .iconst 0, 1, 0, 0, 0, 0), (18, .ireturn, 1, 0, 0, 0, 0)]]
/-- the beginning of LostKeysLaw.man(LLostKeys;II[J)I -/
def rx_mK3 : rx_Md := (yL_man, cL_man, 5, (some .int), 4, 0, 1, 6, rx_tK3)
def rx_tL : List (List rx_E) := [
  [(0, .new 8, 3, 9, 0, 0, 0), (3, .dup, 1, 0, 0, 0, 0), (4, .invokespecial 18, 3, 0, 1, 3, 0), (7, .astore_n 1, 1, 0, 0, 0, 0), (8, .new 19, 3, 10, 0, 0, 0), (11, .dup, 1, 0, 0, 0, 0), (12, .invokespecial 21, 3, 141, 1, 3, 0), (15, .astore_n 2, 1, 0, 0, 0, 0)],
  [(16, .iconst 1, 1, 0, 0, 0, 0), (17, .newarray .long, 2, 0, 0, 0, 0), (19, .astore_n 3, 1, 0, 0, 0, 0), (20, .iconst 0, 1, 0, 0, 0, 0), (21, .istore 4, 2, 0, 0, 0, 0), (23, .iload 4, 2, 0, 0, 0, 0), (25, .aload_n 0, 1, 0, 0, 0, 0), (26, .arraylength, 1, 0, 0, 0, 0), (27, .bipush 6, 2, 0, 0, 0, 0), (29, .isub, 1, 0, 0, 0, 0), (30, .if_icmp .gt 1325, 3, 0, 0, 0, 0)],
  [(33, .aload_n 0, 1, 0, 0, 0, 0), (34, .iload 4, 2, 0, 0, 0, 0), (36, .iaload, 1, 0, 0, 0, 0), (37, .bipush 63, 2, 0, 0, 0, 0), (39, .iand, 1, 0, 0, 0, 0), (40, .tableswitch 1309 0 38 #[172, 245, 270, 283, 296, 333, 373, 413, 438, 475, 512, 561, 610, 635, 648, 685, 722, 747, 784, 809, 822, 847, 872, 921, 946, 959, 972, 985, 1010, 1035, 1060, 1097, 1146, 1171, 1196, 1209, 1234, 1259, 1284], 172, 0, 0, 0, 0)],
  [],
  [],
  [],
  [],
  [],
  [],
  [],
  [],
  [],
  [],
  [(212, .aload_n 1, 1, 0, 0, 0, 0), (213, .aload_n 0, 1, 0, 0, 0, 0), (214, .iload 4, 2, 0, 0, 0, 0), (216, .iconst 1, 1, 0, 0, 0, 0), (217, .iadd, 1, 0, 0, 0, 0), (218, .iaload, 1, 0, 0, 0, 0), (219, .aload_n 0, 1, 0, 0, 0, 0), (220, .iload 4, 2, 0, 0, 0, 0), (222, .iconst 2, 1, 0, 0, 0, 0), (223, .iadd, 1, 0, 0, 0, 0)],
  [(224, .iaload, 1, 0, 0, 0, 0), (225, .aload_n 0, 1, 0, 0, 0, 0), (226, .iload 4, 2, 0, 0, 0, 0), (228, .iconst 3, 1, 0, 0, 0, 0), (229, .iadd, 1, 0, 0, 0, 0), (230, .iaload, 1, 0, 0, 0, 0), (231, .aload_n 0, 1, 0, 0, 0, 0), (232, .iload 4, 2, 0, 0, 0, 0), (234, .iconst 4, 1, 0, 0, 0, 0), (235, .iadd, 1, 0, 0, 0, 0), (236, .iaload, 1, 0, 0, 0, 0), (237, .aload_n 0, 1, 0, 0, 0, 0), (238, .iload 4, 2, 0, 0, 0, 0)],
  [(240, .iconst 5, 1, 0, 0, 0, 0), (241, .iadd, 1, 0, 0, 0, 0), (242, .iaload, 1, 0, 0, 0, 0), (243, .invokevirtual 22, 3, 11, 6, 13, 0), (246, .aload_n 2, 1, 0, 0, 0, 0), (247, .aload_n 0, 1, 0, 0, 0, 0), (248, .iload 4, 2, 0, 0, 0, 0), (250, .iconst 1, 1, 0, 0, 0, 0), (251, .iadd, 1, 0, 0, 0, 0), (252, .iaload, 1, 0, 0, 0, 0), (253, .aload_n 0, 1, 0, 0, 0, 0), (254, .iload 4, 2, 0, 0, 0, 0)],
  [(256, .iconst 2, 1, 0, 0, 0, 0), (257, .iadd, 1, 0, 0, 0, 0), (258, .iaload, 1, 0, 0, 0, 0), (259, .aload_n 0, 1, 0, 0, 0, 0), (260, .iload 4, 2, 0, 0, 0, 0), (262, .iconst 3, 1, 0, 0, 0, 0), (263, .iadd, 1, 0, 0, 0, 0), (264, .iaload, 1, 0, 0, 0, 0), (265, .aload_n 0, 1, 0, 0, 0, 0), (266, .iload 4, 2, 0, 0, 0, 0), (268, .iconst 4, 1, 0, 0, 0, 0), (269, .iadd, 1, 0, 0, 0, 0), (270, .iaload, 1, 0, 0, 0, 0), (271, .aload_n 0, 1, 0, 0, 0, 0)],
  [(272, .iload 4, 2, 0, 0, 0, 0), (274, .iconst 5, 1, 0, 0, 0, 0), (275, .iadd, 1, 0, 0, 0, 0), (276, .iaload, 1, 0, 0, 0, 0), (277, .invokevirtual 26, 3, 161, 6, 14, 0), (280, .if_icmp .eq 1069, 3, 0, 0, 0, 0), (283, .iconst 0, 1, 0, 0, 0, 0), (284, .ireturn, 1, 0, 0, 0, 0), (285, .aload_n 1, 1, 0, 0, 0, 0), (286, .aload_n 0, 1, 0, 0, 0, 0), (287, .iload 4, 2, 0, 0, 0, 0)],
  [(289, .iconst 1, 1, 0, 0, 0, 0), (290, .iadd, 1, 0, 0, 0, 0), (291, .iaload, 1, 0, 0, 0, 0), (292, .invokevirtual 27, 3, 8, 2, 13, 0), (295, .pop, 1, 0, 0, 0, 0), (296, .aload_n 2, 1, 0, 0, 0, 0), (297, .aload_n 0, 1, 0, 0, 0, 0), (298, .iload 4, 2, 0, 0, 0, 0), (300, .iconst 1, 1, 0, 0, 0, 0), (301, .iadd, 1, 0, 0, 0, 0), (302, .iaload, 1, 0, 0, 0, 0), (303, .invokevirtual 31, 3, 159, 2, 14, 0)],
  [(306, .pop, 1, 0, 0, 0, 0), (307, .goto 1042, 3, 0, 0, 0, 0), (310, .aload_n 1, 1, 0, 0, 0, 0), (311, .invokevirtual 32, 3, 35, 1, 13, 0), (314, .pop, 1, 0, 0, 0, 0), (315, .aload_n 2, 1, 0, 0, 0, 0), (316, .invokevirtual 36, 3, 259, 1, 14, 0), (319, .pop, 1, 0, 0, 0, 0)],
  [(320, .goto 1029, 3, 0, 0, 0, 0), (323, .aload_n 1, 1, 0, 0, 0, 0), (324, .invokevirtual 37, 3, 10, 1, 13, 0), (327, .pop, 1, 0, 0, 0, 0), (328, .aload_n 2, 1, 0, 0, 0, 0), (329, .invokevirtual 40, 3, 160, 1, 14, 0), (332, .pop, 1, 0, 0, 0, 0), (333, .goto 1016, 3, 0, 0, 0, 0)],
  [(336, .aload_n 1, 1, 0, 0, 0, 0), (337, .aload_n 0, 1, 0, 0, 0, 0), (338, .iload 4, 2, 0, 0, 0, 0), (340, .iconst 1, 1, 0, 0, 0, 0), (341, .iadd, 1, 0, 0, 0, 0), (342, .iaload, 1, 0, 0, 0, 0), (343, .aload_n 0, 1, 0, 0, 0, 0), (344, .iload 4, 2, 0, 0, 0, 0), (346, .iconst 2, 1, 0, 0, 0, 0), (347, .iadd, 1, 0, 0, 0, 0), (348, .iaload, 1, 0, 0, 0, 0), (349, .invokevirtual 41, 3, 16, 3, 13, 0)],
  [(352, .pop, 1, 0, 0, 0, 0), (353, .aload_n 2, 1, 0, 0, 0, 0), (354, .aload_n 0, 1, 0, 0, 0, 0), (355, .iload 4, 2, 0, 0, 0, 0), (357, .iconst 1, 1, 0, 0, 0, 0), (358, .iadd, 1, 0, 0, 0, 0), (359, .iaload, 1, 0, 0, 0, 0), (360, .aload_n 0, 1, 0, 0, 0, 0), (361, .iload 4, 2, 0, 0, 0, 0), (363, .iconst 2, 1, 0, 0, 0, 0), (364, .iadd, 1, 0, 0, 0, 0), (365, .iaload, 1, 0, 0, 0, 0), (366, .invokevirtual 44, 3, 196, 3, 14, 0)],
  [(369, .pop, 1, 0, 0, 0, 0), (370, .goto 979, 3, 0, 0, 0, 0), (373, .aload_n 1, 1, 0, 0, 0, 0), (374, .aload_n 0, 1, 0, 0, 0, 0), (375, .iload 4, 2, 0, 0, 0, 0), (377, .iconst 1, 1, 0, 0, 0, 0), (378, .iadd, 1, 0, 0, 0, 0), (379, .iaload, 1, 0, 0, 0, 0), (380, .aload_n 0, 1, 0, 0, 0, 0), (381, .iload 4, 2, 0, 0, 0, 0), (383, .iconst 2, 1, 0, 0, 0, 0)],
  [(384, .iadd, 1, 0, 0, 0, 0), (385, .iaload, 1, 0, 0, 0, 0), (386, .aload_n 3, 1, 0, 0, 0, 0), (387, .invokestatic 45, 3, 0, 4, 1, 0), (390, .istore 5, 2, 0, 0, 0, 0), (392, .aload_n 2, 1, 0, 0, 0, 0), (393, .aload_n 0, 1, 0, 0, 0, 0), (394, .iload 4, 2, 0, 0, 0, 0), (396, .iconst 1, 1, 0, 0, 0, 0), (397, .iadd, 1, 0, 0, 0, 0), (398, .iaload, 1, 0, 0, 0, 0), (399, .aload_n 0, 1, 0, 0, 0, 0)],
  [(400, .iload 4, 2, 0, 0, 0, 0), (402, .iconst 2, 1, 0, 0, 0, 0), (403, .iadd, 1, 0, 0, 0, 0), (404, .iaload, 1, 0, 0, 0, 0), (405, .invokevirtual 50, 3, 190, 3, 14, 0), (408, .istore 6, 2, 0, 0, 0, 0), (410, .goto 939, 3, 0, 0, 0, 0), (413, .aload_n 1, 1, 0, 0, 0, 0), (414, .aload_n 0, 1, 0, 0, 0, 0), (415, .iload 4, 2, 0, 0, 0, 0)],
  [(417, .iconst 1, 1, 0, 0, 0, 0), (418, .iadd, 1, 0, 0, 0, 0), (419, .iaload, 1, 0, 0, 0, 0), (420, .aload_n 0, 1, 0, 0, 0, 0), (421, .iload 4, 2, 0, 0, 0, 0), (423, .iconst 2, 1, 0, 0, 0, 0), (424, .iadd, 1, 0, 0, 0, 0), (425, .iaload, 1, 0, 0, 0, 0), (426, .aload_n 3, 1, 0, 0, 0, 0), (427, .invokestatic 51, 3, 0, 4, 1, 0), (430, .istore 5, 2, 0, 0, 0, 0)],
  [(432, .aload_n 2, 1, 0, 0, 0, 0), (433, .aload_n 0, 1, 0, 0, 0, 0), (434, .iload 4, 2, 0, 0, 0, 0), (436, .iconst 1, 1, 0, 0, 0, 0), (437, .iadd, 1, 0, 0, 0, 0), (438, .iaload, 1, 0, 0, 0, 0), (439, .aload_n 0, 1, 0, 0, 0, 0), (440, .iload 4, 2, 0, 0, 0, 0), (442, .iconst 2, 1, 0, 0, 0, 0), (443, .iadd, 1, 0, 0, 0, 0), (444, .iaload, 1, 0, 0, 0, 0), (445, .invokevirtual 53, 3, 203, 3, 14, 0)],
  [(448, .istore 6, 2, 0, 0, 0, 0), (450, .goto 899, 3, 0, 0, 0, 0), (453, .aload_n 1, 1, 0, 0, 0, 0), (454, .aload_n 0, 1, 0, 0, 0, 0), (455, .iload 4, 2, 0, 0, 0, 0), (457, .iconst 1, 1, 0, 0, 0, 0), (458, .iadd, 1, 0, 0, 0, 0), (459, .iaload, 1, 0, 0, 0, 0), (460, .invokevirtual 54, 3, 23, 2, 13, 0), (463, .pop, 1, 0, 0, 0, 0)],
  [(464, .aload_n 2, 1, 0, 0, 0, 0), (465, .aload_n 0, 1, 0, 0, 0, 0), (466, .iload 4, 2, 0, 0, 0, 0), (468, .iconst 1, 1, 0, 0, 0, 0), (469, .iadd, 1, 0, 0, 0, 0), (470, .iaload, 1, 0, 0, 0, 0), (471, .invokevirtual 58, 3, 209, 2, 14, 0), (474, .pop, 1, 0, 0, 0, 0), (475, .goto 874, 3, 0, 0, 0, 0), (478, .aload_n 1, 1, 0, 0, 0, 0), (479, .aload_n 0, 1, 0, 0, 0, 0)],
  [(480, .iload 4, 2, 0, 0, 0, 0), (482, .iconst 1, 1, 0, 0, 0, 0), (483, .iadd, 1, 0, 0, 0, 0), (484, .iaload, 1, 0, 0, 0, 0), (485, .aload_n 0, 1, 0, 0, 0, 0), (486, .iload 4, 2, 0, 0, 0, 0), (488, .iconst 2, 1, 0, 0, 0, 0), (489, .iadd, 1, 0, 0, 0, 0), (490, .iaload, 1, 0, 0, 0, 0), (491, .invokevirtual 59, 3, 7, 3, 13, 0), (494, .pop, 1, 0, 0, 0, 0), (495, .aload_n 2, 1, 0, 0, 0, 0)],
  [(496, .aload_n 0, 1, 0, 0, 0, 0), (497, .iload 4, 2, 0, 0, 0, 0), (499, .iconst 1, 1, 0, 0, 0, 0), (500, .iadd, 1, 0, 0, 0, 0), (501, .iaload, 1, 0, 0, 0, 0), (502, .aload_n 0, 1, 0, 0, 0, 0), (503, .iload 4, 2, 0, 0, 0, 0), (505, .iconst 2, 1, 0, 0, 0, 0), (506, .iadd, 1, 0, 0, 0, 0), (507, .iaload, 1, 0, 0, 0, 0), (508, .invokevirtual 62, 3, 158, 3, 14, 0), (511, .pop, 1, 0, 0, 0, 0)],
  [(512, .goto 837, 3, 0, 0, 0, 0), (515, .aload_n 1, 1, 0, 0, 0, 0), (516, .aload_n 0, 1, 0, 0, 0, 0), (517, .iload 4, 2, 0, 0, 0, 0), (519, .iconst 1, 1, 0, 0, 0, 0), (520, .iadd, 1, 0, 0, 0, 0), (521, .iaload, 1, 0, 0, 0, 0), (522, .aload_n 0, 1, 0, 0, 0, 0), (523, .iload 4, 2, 0, 0, 0, 0), (525, .iconst 2, 1, 0, 0, 0, 0), (526, .iadd, 1, 0, 0, 0, 0), (527, .iaload, 1, 0, 0, 0, 0)],
  [(528, .invokevirtual 63, 3, 28, 3, 13, 0), (531, .pop, 1, 0, 0, 0, 0), (532, .aload_n 2, 1, 0, 0, 0, 0), (533, .aload_n 0, 1, 0, 0, 0, 0), (534, .iload 4, 2, 0, 0, 0, 0), (536, .iconst 1, 1, 0, 0, 0, 0), (537, .iadd, 1, 0, 0, 0, 0), (538, .iaload, 1, 0, 0, 0, 0), (539, .aload_n 0, 1, 0, 0, 0, 0), (540, .iload 4, 2, 0, 0, 0, 0), (542, .iconst 2, 1, 0, 0, 0, 0), (543, .iadd, 1, 0, 0, 0, 0)],
  [(544, .iaload, 1, 0, 0, 0, 0), (545, .invokevirtual 66, 3, 218, 3, 14, 0), (548, .pop, 1, 0, 0, 0, 0), (549, .goto 800, 3, 0, 0, 0, 0), (552, .aload_n 1, 1, 0, 0, 0, 0), (553, .aload_n 0, 1, 0, 0, 0, 0), (554, .iload 4, 2, 0, 0, 0, 0), (556, .iconst 1, 1, 0, 0, 0, 0), (557, .iadd, 1, 0, 0, 0, 0), (558, .iaload, 1, 0, 0, 0, 0), (559, .aload_n 0, 1, 0, 0, 0, 0)],
  [(560, .iload 4, 2, 0, 0, 0, 0), (562, .iconst 2, 1, 0, 0, 0, 0), (563, .iadd, 1, 0, 0, 0, 0), (564, .iaload, 1, 0, 0, 0, 0), (565, .aload_n 0, 1, 0, 0, 0, 0), (566, .iload 4, 2, 0, 0, 0, 0), (568, .iconst 3, 1, 0, 0, 0, 0), (569, .iadd, 1, 0, 0, 0, 0), (570, .iaload, 1, 0, 0, 0, 0), (571, .invokevirtual 67, 3, 36, 4, 13, 0), (574, .pop, 1, 0, 0, 0, 0), (575, .aload_n 2, 1, 0, 0, 0, 0)],
  [(576, .aload_n 0, 1, 0, 0, 0, 0), (577, .iload 4, 2, 0, 0, 0, 0), (579, .iconst 1, 1, 0, 0, 0, 0), (580, .iadd, 1, 0, 0, 0, 0), (581, .iaload, 1, 0, 0, 0, 0), (582, .aload_n 0, 1, 0, 0, 0, 0), (583, .iload 4, 2, 0, 0, 0, 0), (585, .iconst 2, 1, 0, 0, 0, 0), (586, .iadd, 1, 0, 0, 0, 0), (587, .iaload, 1, 0, 0, 0, 0), (588, .aload_n 0, 1, 0, 0, 0, 0), (589, .iload 4, 2, 0, 0, 0, 0), (591, .iconst 3, 1, 0, 0, 0, 0)],
  [(592, .iadd, 1, 0, 0, 0, 0), (593, .iaload, 1, 0, 0, 0, 0), (594, .invokevirtual 71, 3, 260, 4, 14, 0), (597, .pop, 1, 0, 0, 0, 0), (598, .goto 751, 3, 0, 0, 0, 0), (601, .aload_n 1, 1, 0, 0, 0, 0), (602, .aload_n 0, 1, 0, 0, 0, 0), (603, .iload 4, 2, 0, 0, 0, 0), (605, .iconst 1, 1, 0, 0, 0, 0), (606, .iadd, 1, 0, 0, 0, 0), (607, .iaload, 1, 0, 0, 0, 0)],
  [(608, .aload_n 0, 1, 0, 0, 0, 0), (609, .iload 4, 2, 0, 0, 0, 0), (611, .iconst 2, 1, 0, 0, 0, 0), (612, .iadd, 1, 0, 0, 0, 0), (613, .iaload, 1, 0, 0, 0, 0), (614, .aload_n 0, 1, 0, 0, 0, 0), (615, .iload 4, 2, 0, 0, 0, 0), (617, .iconst 3, 1, 0, 0, 0, 0), (618, .iadd, 1, 0, 0, 0, 0), (619, .iaload, 1, 0, 0, 0, 0), (620, .invokevirtual 72, 3, 40, 4, 13, 0), (623, .pop, 1, 0, 0, 0, 0)],
  [(624, .aload_n 2, 1, 0, 0, 0, 0), (625, .aload_n 0, 1, 0, 0, 0, 0), (626, .iload 4, 2, 0, 0, 0, 0), (628, .iconst 1, 1, 0, 0, 0, 0), (629, .iadd, 1, 0, 0, 0, 0), (630, .iaload, 1, 0, 0, 0, 0), (631, .aload_n 0, 1, 0, 0, 0, 0), (632, .iload 4, 2, 0, 0, 0, 0), (634, .iconst 2, 1, 0, 0, 0, 0), (635, .iadd, 1, 0, 0, 0, 0), (636, .iaload, 1, 0, 0, 0, 0), (637, .aload_n 0, 1, 0, 0, 0, 0), (638, .iload 4, 2, 0, 0, 0, 0)],
  [(640, .iconst 3, 1, 0, 0, 0, 0), (641, .iadd, 1, 0, 0, 0, 0), (642, .iaload, 1, 0, 0, 0, 0), (643, .invokevirtual 75, 3, 264, 4, 14, 0), (646, .pop, 1, 0, 0, 0, 0), (647, .goto 702, 3, 0, 0, 0, 0), (650, .aload_n 1, 1, 0, 0, 0, 0), (651, .aload_n 0, 1, 0, 0, 0, 0), (652, .iload 4, 2, 0, 0, 0, 0), (654, .iconst 1, 1, 0, 0, 0, 0), (655, .iadd, 1, 0, 0, 0, 0)],
  [(656, .iaload, 1, 0, 0, 0, 0), (657, .invokevirtual 76, 3, 5, 2, 13, 0), (660, .pop, 1, 0, 0, 0, 0), (661, .aload_n 2, 1, 0, 0, 0, 0), (662, .aload_n 0, 1, 0, 0, 0, 0), (663, .iload 4, 2, 0, 0, 0, 0), (665, .iconst 1, 1, 0, 0, 0, 0), (666, .iadd, 1, 0, 0, 0, 0), (667, .iaload, 1, 0, 0, 0, 0), (668, .invokevirtual 79, 3, 153, 2, 14, 0), (671, .pop, 1, 0, 0, 0, 0)],
  [(672, .goto 677, 3, 0, 0, 0, 0), (675, .aload_n 1, 1, 0, 0, 0, 0), (676, .invokevirtual 80, 3, 39, 1, 13, 0), (679, .pop, 1, 0, 0, 0, 0), (680, .aload_n 2, 1, 0, 0, 0, 0), (681, .invokevirtual 83, 3, 263, 1, 14, 0), (684, .pop, 1, 0, 0, 0, 0), (685, .goto 664, 3, 0, 0, 0, 0)],
  [(688, .aload_n 1, 1, 0, 0, 0, 0), (689, .aload_n 0, 1, 0, 0, 0, 0), (690, .iload 4, 2, 0, 0, 0, 0), (692, .iconst 1, 1, 0, 0, 0, 0), (693, .iadd, 1, 0, 0, 0, 0), (694, .iaload, 1, 0, 0, 0, 0), (695, .aload_n 0, 1, 0, 0, 0, 0), (696, .iload 4, 2, 0, 0, 0, 0), (698, .iconst 2, 1, 0, 0, 0, 0), (699, .iadd, 1, 0, 0, 0, 0), (700, .iaload, 1, 0, 0, 0, 0), (701, .invokevirtual 84, 3, 22, 3, 13, 0)],
  [(704, .pop, 1, 0, 0, 0, 0), (705, .aload_n 2, 1, 0, 0, 0, 0), (706, .aload_n 0, 1, 0, 0, 0, 0), (707, .iload 4, 2, 0, 0, 0, 0), (709, .iconst 1, 1, 0, 0, 0, 0), (710, .iadd, 1, 0, 0, 0, 0), (711, .iaload, 1, 0, 0, 0, 0), (712, .aload_n 0, 1, 0, 0, 0, 0), (713, .iload 4, 2, 0, 0, 0, 0), (715, .iconst 2, 1, 0, 0, 0, 0), (716, .iadd, 1, 0, 0, 0, 0), (717, .iaload, 1, 0, 0, 0, 0), (718, .invokevirtual 87, 3, 207, 3, 14, 0)],
  [(721, .pop, 1, 0, 0, 0, 0), (722, .goto 627, 3, 0, 0, 0, 0), (725, .aload_n 1, 1, 0, 0, 0, 0), (726, .aload_n 0, 1, 0, 0, 0, 0), (727, .iload 4, 2, 0, 0, 0, 0), (729, .iconst 1, 1, 0, 0, 0, 0), (730, .iadd, 1, 0, 0, 0, 0), (731, .iaload, 1, 0, 0, 0, 0), (732, .aload_n 0, 1, 0, 0, 0, 0), (733, .iload 4, 2, 0, 0, 0, 0), (735, .iconst 2, 1, 0, 0, 0, 0)],
  [(736, .iadd, 1, 0, 0, 0, 0), (737, .iaload, 1, 0, 0, 0, 0), (738, .invokevirtual 88, 3, 25, 3, 13, 0), (741, .pop, 1, 0, 0, 0, 0), (742, .aload_n 2, 1, 0, 0, 0, 0), (743, .aload_n 0, 1, 0, 0, 0, 0), (744, .iload 4, 2, 0, 0, 0, 0), (746, .iconst 1, 1, 0, 0, 0, 0), (747, .iadd, 1, 0, 0, 0, 0), (748, .iaload, 1, 0, 0, 0, 0), (749, .aload_n 0, 1, 0, 0, 0, 0), (750, .iload 4, 2, 0, 0, 0, 0)],
  [(752, .iconst 2, 1, 0, 0, 0, 0), (753, .iadd, 1, 0, 0, 0, 0), (754, .iaload, 1, 0, 0, 0, 0), (755, .invokevirtual 91, 3, 211, 3, 14, 0), (758, .pop, 1, 0, 0, 0, 0), (759, .goto 590, 3, 0, 0, 0, 0), (762, .aload_n 1, 1, 0, 0, 0, 0), (763, .aload_n 0, 1, 0, 0, 0, 0), (764, .iload 4, 2, 0, 0, 0, 0), (766, .iconst 1, 1, 0, 0, 0, 0), (767, .iadd, 1, 0, 0, 0, 0)],
  [(768, .iaload, 1, 0, 0, 0, 0), (769, .invokevirtual 92, 3, 12, 2, 13, 0), (772, .pop, 1, 0, 0, 0, 0), (773, .aload_n 2, 1, 0, 0, 0, 0), (774, .aload_n 0, 1, 0, 0, 0, 0), (775, .iload 4, 2, 0, 0, 0, 0), (777, .iconst 1, 1, 0, 0, 0, 0), (778, .iadd, 1, 0, 0, 0, 0), (779, .iaload, 1, 0, 0, 0, 0), (780, .invokevirtual 95, 3, 165, 2, 14, 0), (783, .pop, 1, 0, 0, 0, 0)],
  [(784, .goto 565, 3, 0, 0, 0, 0), (787, .aload_n 1, 1, 0, 0, 0, 0), (788, .aload_n 0, 1, 0, 0, 0, 0), (789, .iload 4, 2, 0, 0, 0, 0), (791, .iconst 1, 1, 0, 0, 0, 0), (792, .iadd, 1, 0, 0, 0, 0), (793, .iaload, 1, 0, 0, 0, 0), (794, .aload_n 0, 1, 0, 0, 0, 0), (795, .iload 4, 2, 0, 0, 0, 0), (797, .iconst 2, 1, 0, 0, 0, 0), (798, .iadd, 1, 0, 0, 0, 0), (799, .iaload, 1, 0, 0, 0, 0)],
  [(800, .invokevirtual 96, 3, 17, 3, 13, 0), (803, .pop, 1, 0, 0, 0, 0), (804, .aload_n 2, 1, 0, 0, 0, 0), (805, .aload_n 0, 1, 0, 0, 0, 0), (806, .iload 4, 2, 0, 0, 0, 0), (808, .iconst 1, 1, 0, 0, 0, 0), (809, .iadd, 1, 0, 0, 0, 0), (810, .iaload, 1, 0, 0, 0, 0), (811, .aload_n 0, 1, 0, 0, 0, 0), (812, .iload 4, 2, 0, 0, 0, 0), (814, .iconst 2, 1, 0, 0, 0, 0), (815, .iadd, 1, 0, 0, 0, 0)],
  [(816, .iaload, 1, 0, 0, 0, 0), (817, .invokevirtual 99, 3, 198, 3, 14, 0), (820, .pop, 1, 0, 0, 0, 0), (821, .goto 528, 3, 0, 0, 0, 0), (824, .aload_n 1, 1, 0, 0, 0, 0), (825, .aload_n 0, 1, 0, 0, 0, 0), (826, .iload 4, 2, 0, 0, 0, 0), (828, .iconst 1, 1, 0, 0, 0, 0), (829, .iadd, 1, 0, 0, 0, 0), (830, .iaload, 1, 0, 0, 0, 0), (831, .invokevirtual 100, 3, 18, 2, 13, 0)],
  [(834, .pop, 1, 0, 0, 0, 0), (835, .aload_n 2, 1, 0, 0, 0, 0), (836, .aload_n 0, 1, 0, 0, 0, 0), (837, .iload 4, 2, 0, 0, 0, 0), (839, .iconst 1, 1, 0, 0, 0, 0), (840, .iadd, 1, 0, 0, 0, 0), (841, .iaload, 1, 0, 0, 0, 0), (842, .invokevirtual 103, 3, 199, 2, 14, 0), (845, .pop, 1, 0, 0, 0, 0), (846, .goto 503, 3, 0, 0, 0, 0)],
  [(849, .aload_n 1, 1, 0, 0, 0, 0), (850, .invokevirtual 104, 3, 20, 1, 13, 0), (853, .pop, 1, 0, 0, 0, 0), (854, .aload_n 2, 1, 0, 0, 0, 0), (855, .invokevirtual 107, 3, 204, 1, 14, 0), (858, .pop, 1, 0, 0, 0, 0), (859, .goto 490, 3, 0, 0, 0, 0), (862, .aload_n 1, 1, 0, 0, 0, 0), (863, .aload_n 0, 1, 0, 0, 0, 0)],
  [(864, .iload 4, 2, 0, 0, 0, 0), (866, .iconst 1, 1, 0, 0, 0, 0), (867, .iadd, 1, 0, 0, 0, 0), (868, .iaload, 1, 0, 0, 0, 0), (869, .invokevirtual 108, 3, 21, 2, 13, 0), (872, .pop, 1, 0, 0, 0, 0), (873, .aload_n 2, 1, 0, 0, 0, 0), (874, .aload_n 0, 1, 0, 0, 0, 0), (875, .iload 4, 2, 0, 0, 0, 0), (877, .iconst 1, 1, 0, 0, 0, 0), (878, .iadd, 1, 0, 0, 0, 0), (879, .iaload, 1, 0, 0, 0, 0)],
  [(880, .invokevirtual 111, 3, 206, 2, 14, 0), (883, .pop, 1, 0, 0, 0, 0), (884, .goto 465, 3, 0, 0, 0, 0), (887, .aload_n 1, 1, 0, 0, 0, 0), (888, .aload_n 0, 1, 0, 0, 0, 0), (889, .iload 4, 2, 0, 0, 0, 0), (891, .iconst 1, 1, 0, 0, 0, 0), (892, .iadd, 1, 0, 0, 0, 0), (893, .iaload, 1, 0, 0, 0, 0), (894, .invokevirtual 112, 3, 27, 2, 13, 0)],
  [(897, .pop, 1, 0, 0, 0, 0), (898, .aload_n 2, 1, 0, 0, 0, 0), (899, .aload_n 0, 1, 0, 0, 0, 0), (900, .iload 4, 2, 0, 0, 0, 0), (902, .iconst 1, 1, 0, 0, 0, 0), (903, .iadd, 1, 0, 0, 0, 0), (904, .iaload, 1, 0, 0, 0, 0), (905, .invokevirtual 115, 3, 215, 2, 14, 0), (908, .pop, 1, 0, 0, 0, 0), (909, .goto 440, 3, 0, 0, 0, 0)],
  [(912, .aload_n 1, 1, 0, 0, 0, 0), (913, .aload_n 0, 1, 0, 0, 0, 0), (914, .iload 4, 2, 0, 0, 0, 0), (916, .iconst 1, 1, 0, 0, 0, 0), (917, .iadd, 1, 0, 0, 0, 0), (918, .iaload, 1, 0, 0, 0, 0), (919, .aload_n 0, 1, 0, 0, 0, 0), (920, .iload 4, 2, 0, 0, 0, 0), (922, .iconst 2, 1, 0, 0, 0, 0), (923, .iadd, 1, 0, 0, 0, 0), (924, .iaload, 1, 0, 0, 0, 0), (925, .aload_n 0, 1, 0, 0, 0, 0), (926, .iload 4, 2, 0, 0, 0, 0)],
  [(928, .iconst 3, 1, 0, 0, 0, 0), (929, .iadd, 1, 0, 0, 0, 0), (930, .iaload, 1, 0, 0, 0, 0), (931, .invokevirtual 116, 3, 41, 4, 13, 0), (934, .pop, 1, 0, 0, 0, 0), (935, .aload_n 2, 1, 0, 0, 0, 0), (936, .aload_n 0, 1, 0, 0, 0, 0), (937, .iload 4, 2, 0, 0, 0, 0), (939, .iconst 1, 1, 0, 0, 0, 0), (940, .iadd, 1, 0, 0, 0, 0), (941, .iaload, 1, 0, 0, 0, 0), (942, .aload_n 0, 1, 0, 0, 0, 0), (943, .iload 4, 2, 0, 0, 0, 0)],
  [(945, .iconst 2, 1, 0, 0, 0, 0), (946, .iadd, 1, 0, 0, 0, 0), (947, .iaload, 1, 0, 0, 0, 0), (948, .aload_n 0, 1, 0, 0, 0, 0), (949, .iload 4, 2, 0, 0, 0, 0), (951, .iconst 3, 1, 0, 0, 0, 0), (952, .iadd, 1, 0, 0, 0, 0), (953, .iaload, 1, 0, 0, 0, 0), (954, .invokevirtual 119, 3, 265, 4, 14, 0), (957, .pop, 1, 0, 0, 0, 0), (958, .goto 391, 3, 0, 0, 0, 0)],
  [(961, .aload_n 1, 1, 0, 0, 0, 0), (962, .aload_n 0, 1, 0, 0, 0, 0), (963, .iload 4, 2, 0, 0, 0, 0), (965, .iconst 1, 1, 0, 0, 0, 0), (966, .iadd, 1, 0, 0, 0, 0), (967, .iaload, 1, 0, 0, 0, 0), (968, .invokevirtual 120, 3, 42, 2, 13, 0), (971, .pop, 1, 0, 0, 0, 0), (972, .aload_n 2, 1, 0, 0, 0, 0), (973, .aload_n 0, 1, 0, 0, 0, 0), (974, .iload 4, 2, 0, 0, 0, 0)],
  [(976, .iconst 1, 1, 0, 0, 0, 0), (977, .iadd, 1, 0, 0, 0, 0), (978, .iaload, 1, 0, 0, 0, 0), (979, .invokevirtual 123, 3, 266, 2, 14, 0), (982, .pop, 1, 0, 0, 0, 0), (983, .goto 366, 3, 0, 0, 0, 0), (986, .aload_n 1, 1, 0, 0, 0, 0), (987, .invokevirtual 124, 3, 13, 1, 13, 0), (990, .pop, 1, 0, 0, 0, 0), (991, .aload_n 2, 1, 0, 0, 0, 0)],
  [(992, .invokevirtual 127, 3, 166, 1, 14, 0), (995, .pop, 1, 0, 0, 0, 0), (996, .goto 353, 3, 0, 0, 0, 0), (999, .aload_n 1, 1, 0, 0, 0, 0), (1000, .invokevirtual 128, 3, 33, 1, 13, 0), (1003, .pop, 1, 0, 0, 0, 0), (1004, .aload_n 2, 1, 0, 0, 0, 0), (1005, .invokevirtual 131, 3, 257, 1, 14, 0)],
  [(1008, .pop, 1, 0, 0, 0, 0), (1009, .goto 340, 3, 0, 0, 0, 0), (1012, .aload_n 1, 1, 0, 0, 0, 0), (1013, .invokevirtual 132, 3, 38, 1, 13, 0), (1016, .pop, 1, 0, 0, 0, 0), (1017, .aload_n 2, 1, 0, 0, 0, 0), (1018, .invokevirtual 135, 3, 262, 1, 14, 0), (1021, .pop, 1, 0, 0, 0, 0), (1022, .goto 327, 3, 0, 0, 0, 0)],
  [(1025, .aload_n 1, 1, 0, 0, 0, 0), (1026, .aload_n 0, 1, 0, 0, 0, 0), (1027, .iload 4, 2, 0, 0, 0, 0), (1029, .iconst 1, 1, 0, 0, 0, 0), (1030, .iadd, 1, 0, 0, 0, 0), (1031, .iaload, 1, 0, 0, 0, 0), (1032, .invokevirtual 136, 3, 37, 2, 13, 0), (1035, .pop, 1, 0, 0, 0, 0), (1036, .aload_n 2, 1, 0, 0, 0, 0), (1037, .aload_n 0, 1, 0, 0, 0, 0), (1038, .iload 4, 2, 0, 0, 0, 0)],
  [(1040, .iconst 1, 1, 0, 0, 0, 0), (1041, .iadd, 1, 0, 0, 0, 0), (1042, .iaload, 1, 0, 0, 0, 0), (1043, .invokevirtual 139, 3, 261, 2, 14, 0), (1046, .pop, 1, 0, 0, 0, 0), (1047, .goto 302, 3, 0, 0, 0, 0), (1050, .aload_n 1, 1, 0, 0, 0, 0), (1051, .aload_n 0, 1, 0, 0, 0, 0), (1052, .iload 4, 2, 0, 0, 0, 0), (1054, .iconst 1, 1, 0, 0, 0, 0), (1055, .iadd, 1, 0, 0, 0, 0)],
  [(1056, .iaload, 1, 0, 0, 0, 0), (1057, .invokevirtual 140, 3, 32, 2, 13, 0), (1060, .pop, 1, 0, 0, 0, 0), (1061, .aload_n 2, 1, 0, 0, 0, 0), (1062, .aload_n 0, 1, 0, 0, 0, 0), (1063, .iload 4, 2, 0, 0, 0, 0), (1065, .iconst 1, 1, 0, 0, 0, 0), (1066, .iadd, 1, 0, 0, 0, 0), (1067, .iaload, 1, 0, 0, 0, 0), (1068, .invokevirtual 143, 3, 253, 2, 14, 0), (1071, .pop, 1, 0, 0, 0, 0)],
  [(1072, .goto 277, 3, 0, 0, 0, 0), (1075, .aload_n 1, 1, 0, 0, 0, 0), (1076, .aload_n 0, 1, 0, 0, 0, 0), (1077, .iload 4, 2, 0, 0, 0, 0), (1079, .iconst 1, 1, 0, 0, 0, 0), (1080, .iadd, 1, 0, 0, 0, 0), (1081, .iaload, 1, 0, 0, 0, 0), (1082, .invokevirtual 144, 3, 3, 2, 13, 0), (1085, .pop, 1, 0, 0, 0, 0), (1086, .aload_n 2, 1, 0, 0, 0, 0), (1087, .aload_n 0, 1, 0, 0, 0, 0)],
  [(1088, .iload 4, 2, 0, 0, 0, 0), (1090, .iconst 1, 1, 0, 0, 0, 0), (1091, .iadd, 1, 0, 0, 0, 0), (1092, .iaload, 1, 0, 0, 0, 0), (1093, .invokevirtual 147, 3, 148, 2, 14, 0), (1096, .pop, 1, 0, 0, 0, 0), (1097, .goto 252, 3, 0, 0, 0, 0), (1100, .aload_n 1, 1, 0, 0, 0, 0), (1101, .aload_n 0, 1, 0, 0, 0, 0), (1102, .iload 4, 2, 0, 0, 0, 0)],
  [(1104, .iconst 1, 1, 0, 0, 0, 0), (1105, .iadd, 1, 0, 0, 0, 0), (1106, .iaload, 1, 0, 0, 0, 0), (1107, .aload_n 0, 1, 0, 0, 0, 0), (1108, .iload 4, 2, 0, 0, 0, 0), (1110, .iconst 2, 1, 0, 0, 0, 0), (1111, .iadd, 1, 0, 0, 0, 0), (1112, .iaload, 1, 0, 0, 0, 0), (1113, .invokevirtual 148, 3, 6, 3, 13, 0), (1116, .pop, 1, 0, 0, 0, 0), (1117, .aload_n 2, 1, 0, 0, 0, 0), (1118, .aload_n 0, 1, 0, 0, 0, 0), (1119, .iload 4, 2, 0, 0, 0, 0)],
  [(1121, .iconst 1, 1, 0, 0, 0, 0), (1122, .iadd, 1, 0, 0, 0, 0), (1123, .iaload, 1, 0, 0, 0, 0), (1124, .aload_n 0, 1, 0, 0, 0, 0), (1125, .iload 4, 2, 0, 0, 0, 0), (1127, .iconst 2, 1, 0, 0, 0, 0), (1128, .iadd, 1, 0, 0, 0, 0), (1129, .iaload, 1, 0, 0, 0, 0), (1130, .invokevirtual 151, 3, 156, 3, 14, 0), (1133, .pop, 1, 0, 0, 0, 0), (1134, .goto 215, 3, 0, 0, 0, 0)],
  [(1137, .aload_n 1, 1, 0, 0, 0, 0), (1138, .aload_n 0, 1, 0, 0, 0, 0), (1139, .iload 4, 2, 0, 0, 0, 0), (1141, .iconst 1, 1, 0, 0, 0, 0), (1142, .iadd, 1, 0, 0, 0, 0), (1143, .iaload, 1, 0, 0, 0, 0), (1144, .aload_n 0, 1, 0, 0, 0, 0), (1145, .iload 4, 2, 0, 0, 0, 0), (1147, .iconst 2, 1, 0, 0, 0, 0), (1148, .iadd, 1, 0, 0, 0, 0), (1149, .iaload, 1, 0, 0, 0, 0), (1150, .aload_n 0, 1, 0, 0, 0, 0), (1151, .iload 4, 2, 0, 0, 0, 0)],
  [(1153, .iconst 3, 1, 0, 0, 0, 0), (1154, .iadd, 1, 0, 0, 0, 0), (1155, .iaload, 1, 0, 0, 0, 0), (1156, .invokevirtual 152, 3, 24, 4, 13, 0), (1159, .pop, 1, 0, 0, 0, 0), (1160, .aload_n 2, 1, 0, 0, 0, 0), (1161, .aload_n 0, 1, 0, 0, 0, 0), (1162, .iload 4, 2, 0, 0, 0, 0), (1164, .iconst 1, 1, 0, 0, 0, 0), (1165, .iadd, 1, 0, 0, 0, 0), (1166, .iaload, 1, 0, 0, 0, 0), (1167, .aload_n 0, 1, 0, 0, 0, 0)],
  [(1168, .iload 4, 2, 0, 0, 0, 0), (1170, .iconst 2, 1, 0, 0, 0, 0), (1171, .iadd, 1, 0, 0, 0, 0), (1172, .iaload, 1, 0, 0, 0, 0), (1173, .aload_n 0, 1, 0, 0, 0, 0), (1174, .iload 4, 2, 0, 0, 0, 0), (1176, .iconst 3, 1, 0, 0, 0, 0), (1177, .iadd, 1, 0, 0, 0, 0), (1178, .iaload, 1, 0, 0, 0, 0), (1179, .invokevirtual 155, 3, 210, 4, 14, 0), (1182, .pop, 1, 0, 0, 0, 0), (1183, .goto 166, 3, 0, 0, 0, 0)],
  [(1186, .aload_n 1, 1, 0, 0, 0, 0), (1187, .aload_n 0, 1, 0, 0, 0, 0), (1188, .iload 4, 2, 0, 0, 0, 0), (1190, .iconst 1, 1, 0, 0, 0, 0), (1191, .iadd, 1, 0, 0, 0, 0), (1192, .iaload, 1, 0, 0, 0, 0), (1193, .invokevirtual 156, 3, 2, 2, 13, 0), (1196, .pop, 1, 0, 0, 0, 0), (1197, .aload_n 2, 1, 0, 0, 0, 0), (1198, .aload_n 0, 1, 0, 0, 0, 0), (1199, .iload 4, 2, 0, 0, 0, 0)],
  [(1201, .iconst 1, 1, 0, 0, 0, 0), (1202, .iadd, 1, 0, 0, 0, 0), (1203, .iaload, 1, 0, 0, 0, 0), (1204, .invokevirtual 159, 3, 147, 2, 14, 0), (1207, .pop, 1, 0, 0, 0, 0), (1208, .goto 141, 3, 0, 0, 0, 0), (1211, .aload_n 1, 1, 0, 0, 0, 0), (1212, .aload_n 0, 1, 0, 0, 0, 0), (1213, .iload 4, 2, 0, 0, 0, 0), (1215, .iconst 1, 1, 0, 0, 0, 0)],
  [(1216, .iadd, 1, 0, 0, 0, 0), (1217, .iaload, 1, 0, 0, 0, 0), (1218, .invokevirtual 160, 3, 34, 2, 13, 0), (1221, .pop, 1, 0, 0, 0, 0), (1222, .aload_n 2, 1, 0, 0, 0, 0), (1223, .aload_n 0, 1, 0, 0, 0, 0), (1224, .iload 4, 2, 0, 0, 0, 0), (1226, .iconst 1, 1, 0, 0, 0, 0), (1227, .iadd, 1, 0, 0, 0, 0), (1228, .iaload, 1, 0, 0, 0, 0), (1229, .invokevirtual 163, 3, 258, 2, 14, 0)],
  [(1232, .pop, 1, 0, 0, 0, 0), (1233, .goto 116, 3, 0, 0, 0, 0), (1236, .aload_n 1, 1, 0, 0, 0, 0), (1237, .invokevirtual 164, 3, 31, 1, 13, 0), (1240, .pop, 1, 0, 0, 0, 0), (1241, .aload_n 2, 1, 0, 0, 0, 0), (1242, .invokevirtual 167, 3, 246, 1, 14, 0), (1245, .pop, 1, 0, 0, 0, 0), (1246, .goto 103, 3, 0, 0, 0, 0)],
  [(1249, .aload_n 1, 1, 0, 0, 0, 0), (1250, .aload_n 0, 1, 0, 0, 0, 0), (1251, .iload 4, 2, 0, 0, 0, 0), (1253, .iconst 1, 1, 0, 0, 0, 0), (1254, .iadd, 1, 0, 0, 0, 0), (1255, .iaload, 1, 0, 0, 0, 0), (1256, .invokevirtual 168, 3, 30, 2, 13, 0), (1259, .pop, 1, 0, 0, 0, 0), (1260, .aload_n 2, 1, 0, 0, 0, 0), (1261, .aload_n 0, 1, 0, 0, 0, 0), (1262, .iload 4, 2, 0, 0, 0, 0)],
  [(1264, .iconst 1, 1, 0, 0, 0, 0), (1265, .iadd, 1, 0, 0, 0, 0), (1266, .iaload, 1, 0, 0, 0, 0), (1267, .invokevirtual 171, 3, 244, 2, 14, 0), (1270, .pop, 1, 0, 0, 0, 0), (1271, .goto 78, 3, 0, 0, 0, 0), (1274, .aload_n 1, 1, 0, 0, 0, 0), (1275, .aload_n 0, 1, 0, 0, 0, 0), (1276, .iload 4, 2, 0, 0, 0, 0), (1278, .iconst 1, 1, 0, 0, 0, 0), (1279, .iadd, 1, 0, 0, 0, 0)],
  [(1280, .iaload, 1, 0, 0, 0, 0), (1281, .invokevirtual 172, 3, 14, 2, 13, 0), (1284, .pop, 1, 0, 0, 0, 0), (1285, .aload_n 2, 1, 0, 0, 0, 0), (1286, .aload_n 0, 1, 0, 0, 0, 0), (1287, .iload 4, 2, 0, 0, 0, 0), (1289, .iconst 1, 1, 0, 0, 0, 0), (1290, .iadd, 1, 0, 0, 0, 0), (1291, .iaload, 1, 0, 0, 0, 0), (1292, .invokevirtual 175, 3, 172, 2, 14, 0), (1295, .pop, 1, 0, 0, 0, 0)],
  [(1296, .goto 53, 3, 0, 0, 0, 0), (1299, .aload_n 1, 1, 0, 0, 0, 0), (1300, .aload_n 0, 1, 0, 0, 0, 0), (1301, .iload 4, 2, 0, 0, 0, 0), (1303, .iconst 1, 1, 0, 0, 0, 0), (1304, .iadd, 1, 0, 0, 0, 0), (1305, .iaload, 1, 0, 0, 0, 0), (1306, .invokevirtual 176, 3, 29, 2, 13, 0), (1309, .pop, 1, 0, 0, 0, 0), (1310, .aload_n 2, 1, 0, 0, 0, 0), (1311, .aload_n 0, 1, 0, 0, 0, 0)],
  [(1312, .iload 4, 2, 0, 0, 0, 0), (1314, .iconst 1, 1, 0, 0, 0, 0), (1315, .iadd, 1, 0, 0, 0, 0), (1316, .iaload, 1, 0, 0, 0, 0), (1317, .invokevirtual 179, 3, 243, 2, 14, 0), (1320, .pop, 1, 0, 0, 0, 0), (1321, .goto 28, 3, 0, 0, 0, 0), (1324, .aload_n 1, 1, 0, 0, 0, 0), (1325, .aload_n 0, 1, 0, 0, 0, 0), (1326, .iload 4, 2, 0, 0, 0, 0)],
  [(1328, .iconst 1, 1, 0, 0, 0, 0), (1329, .iadd, 1, 0, 0, 0, 0), (1330, .iaload, 1, 0, 0, 0, 0), (1331, .invokevirtual 180, 3, 4, 2, 13, 0), (1334, .pop, 1, 0, 0, 0, 0), (1335, .aload_n 2, 1, 0, 0, 0, 0), (1336, .aload_n 0, 1, 0, 0, 0, 0), (1337, .iload 4, 2, 0, 0, 0, 0), (1339, .iconst 1, 1, 0, 0, 0, 0), (1340, .iadd, 1, 0, 0, 0, 0), (1341, .iaload, 1, 0, 0, 0, 0), (1342, .invokevirtual 183, 3, 152, 2, 14, 0)],
  [(1345, .pop, 1, 0, 0, 0, 0), (1346, .goto 3, 3, 0, 0, 0, 0), (1349, .iinc 4 6, 3, 0, 0, 0, 0), (1352, .goto (-1329), 3, 0, 0, 0, 0), (1355, .iconst 1, 1, 0, 0, 0, 0), (1356, .ireturn, 1, 0, 0, 0, 0)]]
def rx_mL : rx_Md := (yL_law, cL_law, 7, some .boolean, 1, 0, 601024, 7293034, rx_tL)
def rx_MT : List rx_Md := [rx_m0, rx_m1, rx_m2, rx_m3, rx_m4, rx_m5, rx_m6, rx_m7, rx_m8, rx_m9, rx_m10, rx_m11, rx_m12, rx_m13, rx_m14, rx_m15, rx_m16, rx_m17, rx_m18, rx_m19, rx_m20, rx_m21, rx_m22, rx_m23, rx_m24, rx_m25, rx_m26, rx_m27, rx_m28, rx_m29, rx_m30, rx_m31, rx_m32, rx_m33, rx_m34, rx_m35, rx_m36, rx_m37, rx_m38, rx_m39, rx_m40, rx_m41, rx_m42, rx_m43, rx_m44, rx_m45, rx_m46, rx_m47, rx_m48, rx_m49, rx_m50, rx_m51, rx_m52, rx_m53, rx_m54, rx_m55, rx_m56, rx_m57, rx_m58, rx_m59, rx_m60, rx_m61, rx_m62, rx_m63, rx_m64, rx_m65, rx_m66, rx_m67, rx_m68, rx_m69, rx_m70, rx_m71, rx_m72, rx_m73, rx_m74, rx_m75, rx_m76, rx_m77, rx_m78, rx_m79, rx_m80, rx_m81, rx_m82, rx_m83, rx_m84, rx_m85, rx_m86, rx_m87, rx_m88, rx_m89, rx_m90, rx_m91, rx_m92, rx_m93, rx_m94, rx_m95, rx_m96, rx_m97, rx_m98, rx_m99, rx_m100, rx_m101, rx_m102, rx_m103, rx_m104, rx_m105, rx_m106, rx_m107, rx_m108, rx_m109, rx_m110, rx_m111, rx_m112, rx_m113, rx_m114, rx_m115, rx_m116, rx_m117, rx_m118, rx_m119, rx_m120, rx_m121, rx_m122, rx_m123, rx_m124, rx_m125, rx_m126, rx_m127, rx_m128, rx_m129, rx_m130, rx_m131, rx_m132, rx_m133, rx_m134, rx_m135, rx_m136, rx_m137, rx_m138, rx_m139, rx_m140, rx_m141, rx_m142, rx_m143, rx_m144, rx_m145, rx_m146, rx_m147, rx_m148, rx_m149, rx_m150, rx_m151, rx_m152, rx_m153, rx_m154, rx_m155, rx_m156, rx_m157, rx_m158, rx_m159, rx_m160, rx_m161, rx_m162, rx_m163, rx_m164, rx_m165, rx_m166, rx_m167, rx_m168, rx_m169, rx_m170, rx_m171, rx_m172, rx_m173, rx_m174, rx_m175, rx_m176, rx_m177, rx_m178, rx_m179, rx_m180, rx_m181, rx_m182, rx_m183, rx_m184, rx_m185, rx_m186, rx_m187, rx_m188, rx_m189, rx_m190, rx_m191, rx_m192, rx_m193, rx_m194, rx_m195, rx_m196, rx_m197, rx_m198, rx_m199, rx_m200, rx_m201, rx_m202, rx_m203, rx_m204, rx_m205, rx_m206, rx_m207, rx_m208, rx_m209, rx_m210, rx_m211, rx_m212, rx_m213, rx_m214, rx_m215, rx_m216, rx_m217, rx_m218, rx_m219, rx_m220, rx_m221, rx_m222, rx_m223, rx_m224, rx_m225, rx_m226, rx_m227, rx_m228, rx_m229, rx_m230, rx_m231, rx_m232, rx_m233, rx_m234, rx_m235, rx_m236, rx_m237, rx_m238, rx_m239, rx_m240, rx_m241, rx_m242, rx_m243, rx_m244, rx_m245, rx_m246, rx_m247, rx_m248, rx_m249, rx_m250, rx_m251, rx_m252, rx_m253, rx_m254, rx_m255, rx_m256, rx_m257, rx_m258, rx_m259, rx_m260, rx_m261, rx_m262, rx_m263, rx_m264, rx_m265, rx_m266, rx_m267, rx_m268, rx_m269, rx_m270, rx_m271, rx_m272, rx_m273, rx_m274, rx_m275, rx_m276, rx_m277, rx_m278, rx_m279, rx_m280, rx_m281, rx_m282, rx_m283]
def rx_NW : List (List rx_V) := [
  [.inl (0, 0), .inr (.inr (.inl none)), .inr (.inr (.inl none)), .inr (.inr (.inl none)), .inr (.inr (.inl none)), .inr (.inr (.inl none))],
  [.inr (.inr (.inl none)), .inl (0, 0), .inl (0, 0)],
  [.inl (0, 0), .inr (.inr (.inl none)), .inr (.inr (.inl none)), .inr (.inr (.inl none))],
  [.inr (.inr (.inl none)), .inr (.inr (.inl none)), .inr (.inr (.inl none)), .inr (.inr (.inl none)), .inr (.inr (.inl none)), .inl (0, 0), .inr (.inr (.inl none))],
  [.inl (0, 0), .inl (0, 0), .inr (.inr (.inl none)), .inr (.inr (.inl none)), .inr (.inr (.inl none)), .inr (.inr (.inl none))],
  [.inl (0, 0), .inl (0, 0), .inl (0, 0), .inl (0, 0), .inr (.inr (.inl none)), .inr (.inr (.inl none)), .inr (.inr (.inl none)), .inr (.inr (.inl none)), .inr (.inr (.inl none)), .inr (.inr (.inl none)), .inr (.inr (.inl none)), .inr (.inr (.inl none)), .inl (0, 0)],
  [.inr (.inr (.inl none)), .inl (0, 0)],
  [.inr (.inr (.inl none)), .inr (.inr (.inl none)), .inl (0, 0), .inl (0, 0), .inl (0, 0), .inl (0, 0), .inl (0, 0), .inr (.inl (0, 0)), .inl (0, 0), .inl (0, 0), .inl (0, 0), .inl (0, 0), .inl (0, 0), .inl (0, 0)],
  [.inl (0, 0), .inl (0, 0), .inl (0, 0), .inl (0, 0), .inl (0, 0), .inr (.inr (.inl none)), .inr (.inr (.inl none)), .inr (.inr (.inl none)), .inr (.inr (.inl none)), .inr (.inr (.inl none)), .inr (.inr (.inl none)), .inr (.inr (.inl none)), .inl (0, 0), .inr (.inr (.inl none)), .inr (.inr (.inl none)), .inr (.inr (.inl none)), .inr (.inr (.inl none)), .inr (.inr (.inl none))],
  [.inr (.inr (.inl none)), .inr (.inr (.inl none)), .inr (.inr (.inl none)), .inr (.inr (.inl none)), .inr (.inr (.inl none)), .inr (.inr (.inl none)), .inr (.inr (.inl none)), .inr (.inr (.inl none)), .inr (.inr (.inl none)), .inr (.inr (.inl none)), .inr (.inr (.inl none)), .inr (.inr (.inl none)), .inl (0, 0), .inl (0, 0), .inl (0, 0), .inl (0, 0), .inl (0, 0), .inl (0, 0)],
  [.inl (0, 0), .inr (.inr (.inl none)), .inl (0, 0), .inl (0, 0), .inl (0, 0), .inl (0, 0), .inl (0, 0), .inl (0, 0), .inl (0, 0), .inl (0, 0), .inl (0, 0), .inl (0, 0), .inr (.inl (0, 0)), .inl (0, 0), .inr (.inr (.inl none)), .inr (.inr (.inl none)), .inr (.inr (.inl none)), .inr (.inr (.inl none)), .inr (.inr (.inl none)), .inr (.inr (.inl none)), .inr (.inr (.inl none)), .inr (.inr (.inl none)), .inr (.inr (.inl none)), .inr (.inr (.inl none)), .inl (0, 0), .inl (0, 0), .inl (0, 0), .inr (.inr (.inl none)), .inr (.inr (.inl none)), .inr (.inr (.inl none)), .inl (0, 0), .inl (0, 0), .inr (.inr (.inl none)), .inr (.inr (.inl none)), .inl (0, 0), .inl (0, 0), .inl (0, 0), .inl (0, 0), .inr (.inr (.inl none)), .inl (0, 0), .inl (0, 0), .inr (.inr (.inl none)), .inr (.inr (.inl none)), .inl (0, 0), .inl (0, 0), .inr (.inr (.inl none)), .inl (0, 0), .inl (0, 0), .inl (0, 0), .inl (0, 0)]]
