/-! The code of all methods, for my small machine (printed by wip/gen/tab.py). -/
/-- 0: PlatformDoors$Frame.<init>()V -/
def pm_c0 : pm_Cd := [
  [(0, .aload_n 0, 1, []), (1, .invokespecial 3, 4, []), (4, .return_, 5, [])]]
def pm_m0 : pm_Mt := (⟨"PlatformDoors$Frame", "<init>", "()V"⟩, prog_2_method_1_code, 1, none, pm_c0, 0)
/-- 1: PlatformDoors$Frame.clear()V -/
def pm_c1 : pm_Cd := [
  [(0, .aload_n 0, 1, []), (1, .iconst 0, 2, []), (2, .putfield 9, 5, [0, 0, 0, 1]), (5, .aload_n 0, 6, []), (6, .iconst 0, 7, []), (7, .putfield 15, 10, [1, 0, 0, 1]), (10, .aload_n 0, 11, []), (11, .iconst 0, 12, []), (12, .putfield 18, 15, [2, 0, 0, 1]), (15, .aload_n 0, 16, [])],
  [(16, .iconst 0, 17, []), (17, .putfield 21, 20, [3, 0, 0, 1]), (20, .aload_n 0, 21, []), (21, .iconst 0, 22, []), (22, .putfield 24, 25, [4, 1, 0, 1]), (25, .aload_n 0, 26, []), (26, .iconst 0, 27, []), (27, .putfield 28, 30, [5, 1, 0, 1]), (30, .return_, 31, [])]]
def pm_m1 : pm_Mt := (⟨"PlatformDoors$Frame", "clear", "()V"⟩, prog_2_method_2_code, 1, none, pm_c1, 0)
/-- 2: PlatformDoors$Frame.copyFrom(LPlatformDoors$Frame;)V -/
def pm_c2 : pm_Cd := [
  [(0, .aload_n 0, 1, []), (1, .aload_n 1, 2, []), (2, .getfield 9, 5, [0, 0, 1]), (5, .putfield 9, 8, [0, 0, 0, 1]), (8, .aload_n 0, 9, []), (9, .aload_n 1, 10, []), (10, .getfield 15, 13, [1, 0, 1]), (13, .putfield 15, 16, [1, 0, 0, 1])],
  [(16, .aload_n 0, 17, []), (17, .aload_n 1, 18, []), (18, .getfield 18, 21, [2, 0, 1]), (21, .putfield 18, 24, [2, 0, 0, 1]), (24, .aload_n 0, 25, []), (25, .aload_n 1, 26, []), (26, .getfield 21, 29, [3, 0, 1]), (29, .putfield 21, 32, [3, 0, 0, 1])],
  [(32, .aload_n 0, 33, []), (33, .aload_n 1, 34, []), (34, .getfield 24, 37, [4, 1, 1]), (37, .putfield 24, 40, [4, 1, 0, 1]), (40, .aload_n 0, 41, []), (41, .aload_n 1, 42, []), (42, .getfield 28, 45, [5, 1, 1]), (45, .putfield 28, 48, [5, 1, 0, 1])],
  [(48, .return_, 49, [])]]
def pm_m2 : pm_Mt := (⟨"PlatformDoors$Frame", "copyFrom", "(LPlatformDoors$Frame;)V"⟩, prog_2_method_3_code, 2, none, pm_c2, 0)
/-- 3: PlatformDoors$Frame.tellsIsolated(I)Z -/
def pm_c3 : pm_Cd := [
  [(0, .aload_n 0, 1, []), (1, .getfield 21, 4, [3, 0, 1]), (4, .iload_n 1, 5, []), (5, .ishr, 6, []), (6, .iconst 1, 7, []), (7, .iand, 8, []), (8, .iconst 1, 9, []), (9, .if_icmp .ne 7, 12, [16]), (12, .iconst 1, 13, []), (13, .goto 4, 16, [17])],
  [(16, .iconst 0, 17, []), (17, .ireturn, 18, [])]]
def pm_m3 : pm_Mt := (⟨"PlatformDoors$Frame", "tellsIsolated", "(I)Z"⟩, prog_2_method_4_code, 2, (some .boolean), pm_c3, 2)
/-- 4: PlatformDoors$Frame.part(I)I -/
def pm_c4 : pm_Cd := [
  [(0, .iload_n 1, 1, []), (1, .tableswitch 75 0 5 #[39, 44, 49, 54, 59, 67], 40, [76, 40, 45, 50, 55, 60, 68])],
  [],
  [(40, .aload_n 0, 41, []), (41, .getfield 9, 44, [0, 0, 1]), (44, .ireturn, 45, []), (45, .aload_n 0, 46, []), (46, .getfield 15, 49, [1, 0, 1])],
  [(49, .ireturn, 50, []), (50, .aload_n 0, 51, []), (51, .getfield 18, 54, [2, 0, 1]), (54, .ireturn, 55, []), (55, .aload_n 0, 56, []), (56, .getfield 21, 59, [3, 0, 1]), (59, .ireturn, 60, []), (60, .aload_n 0, 61, []), (61, .getfield 24, 64, [4, 1, 1])],
  [(64, .invokestatic 31, 67, [1, 72]), (67, .ireturn, 68, []), (68, .aload_n 0, 69, []), (69, .getfield 28, 72, [5, 1, 1]), (72, .invokestatic 31, 75, [1, 72]), (75, .ireturn, 76, []), (76, .iconst (-1), 77, []), (77, .ireturn, 78, [])]]
def pm_m4 : pm_Mt := (⟨"PlatformDoors$Frame", "part", "(I)I"⟩, prog_2_method_5_code, 2, (some .int), pm_c4, 1)
/-- 5: PlatformDoors$Leaf.<init>()V -/
def pm_c5 : pm_Cd := [
  [(0, .aload_n 0, 1, []), (1, .invokespecial 3, 4, []), (4, .aload_n 0, 5, []), (5, .iconst 2, 6, []), (6, .newarray .int, 8, [0]), (8, .putfield 9, 11, [0, 2, 0, 2]), (11, .return_, 12, [])]]
def pm_m5 : pm_Mt := (⟨"PlatformDoors$Leaf", "<init>", "()V"⟩, prog_3_method_1_code, 1, none, pm_c5, 0)
/-- 6: PlatformDoors$Leaf.clear()V -/
def pm_c6 : pm_Cd := [
  [(0, .aload_n 0, 1, []), (1, .getfield 9, 4, [0, 2, 2]), (4, .iconst 0, 5, []), (5, .iconst 0, 6, []), (6, .iastore, 7, []), (7, .aload_n 0, 8, []), (8, .getfield 9, 11, [0, 2, 2]), (11, .iconst 1, 12, []), (12, .iconst 0, 13, []), (13, .iastore, 14, []), (14, .aload_n 0, 15, []), (15, .iconst 0, 16, [])],
  [(16, .putfield 15, 19, [1, 0, 0, 2]), (19, .aload_n 0, 20, []), (20, .iconst 0, 21, []), (21, .putfield 19, 24, [2, 0, 0, 2]), (24, .aload_n 0, 25, []), (25, .iconst 0, 26, []), (26, .putfield 22, 29, [3, 0, 0, 2]), (29, .aload_n 0, 30, []), (30, .iconst 0, 31, []), (31, .putfield 25, 34, [4, 0, 0, 2])],
  [(34, .aload_n 0, 35, []), (35, .iconst 0, 36, []), (36, .putfield 28, 39, [5, 1, 0, 2]), (39, .aload_n 0, 40, []), (40, .iconst 0, 41, []), (41, .putfield 32, 44, [6, 1, 0, 2]), (44, .aload_n 0, 45, []), (45, .iconst 0, 46, []), (46, .putfield 35, 49, [7, 1, 0, 2])],
  [(49, .aload_n 0, 50, []), (50, .iconst 0, 51, []), (51, .putfield 38, 54, [8, 1, 0, 2]), (54, .return_, 55, [])]]
def pm_m6 : pm_Mt := (⟨"PlatformDoors$Leaf", "clear", "()V"⟩, prog_3_method_2_code, 1, none, pm_c6, 0)
/-- 7: PlatformDoors$Leaf.advance(Z)V -/
def pm_c7 : pm_Cd := [
  [(0, .aload_n 0, 1, []), (1, .iload_n 1, 2, []), (2, .ifCond .eq 10, 5, [12]), (5, .aload_n 0, 6, []), (6, .getfield 32, 9, [6, 1, 2]), (9, .ifCond .eq 10, 12, [19]), (12, .aload_n 0, 13, []), (13, .getfield 22, 16, [3, 0, 2])],
  [(16, .ifCond .le 7, 19, [23]), (19, .iconst 1, 20, []), (20, .goto 4, 23, [24]), (23, .iconst 0, 24, []), (24, .putfield 28, 27, [5, 1, 0, 2]), (27, .aload_n 0, 28, []), (28, .invokevirtual 41, 31, [0, 2, 2, 8]), (31, .aload_n 0, 32, [])],
  [(32, .invokevirtual 44, 35, [0, 2, 2, 10]), (35, .ifCond .eq 13, 38, [48]), (38, .aload_n 0, 39, []), (39, .iconst 0, 40, []), (40, .putfield 19, 43, [2, 0, 0, 2]), (43, .aload_n 0, 44, []), (44, .iconst 0, 45, []), (45, .putfield 38, 48, [8, 1, 0, 2])],
  [(48, .aload_n 0, 49, []), (49, .iconst 0, 50, []), (50, .aload_n 0, 51, []), (51, .getfield 25, 54, [4, 0, 2]), (54, .iconst 1, 55, []), (55, .isub, 56, []), (56, .invokestatic 48, 59, [0]), (59, .putfield 25, 62, [4, 0, 0, 2]), (62, .aload_n 0, 63, []), (63, .iconst 0, 64, [])],
  [(64, .aload_n 0, 65, []), (65, .getfield 22, 68, [3, 0, 2]), (68, .iconst 1, 69, []), (69, .isub, 70, []), (70, .invokestatic 48, 73, [0]), (73, .putfield 22, 76, [3, 0, 0, 2]), (76, .return_, 77, [])]]
def pm_m7 : pm_Mt := (⟨"PlatformDoors$Leaf", "advance", "(Z)V"⟩, prog_3_method_3_code, 2, none, pm_c7, 0)
/-- 8: PlatformDoors$Leaf.move()V -/
def pm_c8 : pm_Cd := [
  [(0, .aload_n 0, 1, []), (1, .getfield 35, 4, [7, 1, 2]), (4, .ifCond .eq 22, 7, [26]), (7, .aload_n 0, 8, []), (8, .bipush 100, 10, []), (10, .aload_n 0, 11, []), (11, .getfield 15, 14, [1, 0, 2]), (14, .bipush 10, 16, [])],
  [(16, .iadd, 17, []), (17, .invokestatic 54, 20, [1]), (20, .putfield 15, 23, [1, 0, 0, 2]), (23, .goto 72, 26, [95]), (26, .aload_n 0, 27, []), (27, .getfield 28, 30, [5, 1, 2]), (30, .ifCond .eq 21, 33, [51])],
  [(33, .aload_n 0, 34, []), (34, .bipush 100, 36, []), (36, .aload_n 0, 37, []), (37, .getfield 15, 40, [1, 0, 2]), (40, .iconst 5, 41, []), (41, .iadd, 42, []), (42, .invokestatic 54, 45, [1]), (45, .putfield 15, 48, [1, 0, 0, 2])],
  [(48, .goto 47, 51, [95]), (51, .aload_n 0, 52, []), (52, .getfield 15, 55, [1, 0, 2]), (55, .ifCond .le 26, 58, [81]), (58, .aload_n 0, 59, []), (59, .getfield 15, 62, [1, 0, 2]), (62, .bipush 40, 64, [])],
  [(64, .if_icmp .gt 17, 67, [81]), (67, .aload_n 0, 68, []), (68, .getfield 25, 71, [4, 0, 2]), (71, .ifCond .le 10, 74, [81]), (74, .aload_n 0, 75, []), (75, .invokevirtual 57, 78, [0, 2, 2, 9]), (78, .goto 17, 81, [95])],
  [(81, .aload_n 0, 82, []), (82, .iconst 0, 83, []), (83, .aload_n 0, 84, []), (84, .getfield 15, 87, [1, 0, 2]), (87, .iconst 5, 88, []), (88, .isub, 89, []), (89, .invokestatic 48, 92, [0]), (92, .putfield 15, 95, [1, 0, 0, 2]), (95, .return_, 96, [])]]
def pm_m8 : pm_Mt := (⟨"PlatformDoors$Leaf", "move", "()V"⟩, prog_3_method_4_code, 1, none, pm_c8, 0)
/-- 9: PlatformDoors$Leaf.feel()V -/
def pm_c9 : pm_Cd := [
  [(0, .aload_n 0, 1, []), (1, .getfield 19, 4, [2, 0, 2]), (4, .iconst 3, 5, []), (5, .if_icmp .ge 22, 8, [27]), (8, .aload_n 0, 9, []), (9, .dup, 10, []), (10, .getfield 19, 13, [2, 0, 2]), (13, .iconst 1, 14, []), (14, .iadd, 15, []), (15, .putfield 19, 18, [2, 0, 0, 2])],
  [(18, .aload_n 0, 19, []), (19, .bipush 41, 21, []), (21, .putfield 22, 24, [3, 0, 0, 2]), (24, .goto 8, 27, [32]), (27, .aload_n 0, 28, []), (28, .iconst 1, 29, []), (29, .putfield 38, 32, [8, 1, 0, 2])],
  [(32, .return_, 33, [])]]
def pm_m9 : pm_Mt := (⟨"PlatformDoors$Leaf", "feel", "()V"⟩, prog_3_method_5_code, 1, none, pm_c9, 0)
/-- 10: PlatformDoors$Leaf.isLocked()Z -/
def pm_c10 : pm_Cd := [
  [(0, .aload_n 0, 1, []), (1, .getfield 15, 4, [1, 0, 2]), (4, .ifCond .ne 21, 7, [25]), (7, .aload_n 0, 8, []), (8, .getfield 28, 11, [5, 1, 2]), (11, .ifCond .ne 14, 14, [25]), (14, .aload_n 0, 15, []), (15, .getfield 35, 18, [7, 1, 2])],
  [(18, .ifCond .ne 7, 21, [25]), (21, .iconst 1, 22, []), (22, .goto 4, 25, [26]), (25, .iconst 0, 26, []), (26, .ireturn, 27, [])]]
def pm_m10 : pm_Mt := (⟨"PlatformDoors$Leaf", "isLocked", "()Z"⟩, prog_3_method_6_code, 1, (some .boolean), pm_c10, 2)
/-- 11: PlatformDoors$Leaf.isToldLocked()Z -/
def pm_c11 : pm_Cd := [
  [(0, .aload_n 0, 1, []), (1, .invokevirtual 44, 4, [0, 2, 2, 10]), (4, .istore_n 1, 5, []), (5, .aload_n 0, 6, []), (6, .getfield 9, 9, [0, 2, 2]), (9, .iconst 0, 10, []), (10, .iaload, 11, []), (11, .iload_n 1, 12, []), (12, .invokestatic 60, 15, [2, 12]), (15, .ifCond .eq 20, 18, [35])],
  [(18, .aload_n 0, 19, []), (19, .getfield 9, 22, [0, 2, 2]), (22, .iconst 1, 23, []), (23, .iaload, 24, []), (24, .iload_n 1, 25, []), (25, .invokestatic 60, 28, [2, 12]), (28, .ifCond .eq 7, 31, [35]), (31, .iconst 1, 32, [])],
  [(32, .goto 4, 35, [36]), (35, .iconst 0, 36, []), (36, .ireturn, 37, [])]]
def pm_m11 : pm_Mt := (⟨"PlatformDoors$Leaf", "isToldLocked", "()Z"⟩, prog_3_method_7_code, 2, (some .boolean), pm_c11, 2)
/-- 12: PlatformDoors$Leaf.saysLocked(IZ)Z -/
def pm_c12 : pm_Cd := [
  [(0, .iload_n 0, 1, []), (1, .iconst 1, 2, []), (2, .if_icmp .eq 12, 5, [14]), (5, .iload_n 0, 6, []), (6, .iconst 2, 7, []), (7, .if_icmp .eq 11, 10, [18]), (10, .iload_n 1, 11, []), (11, .ifCond .eq 7, 14, [18]), (14, .iconst 1, 15, []), (15, .goto 4, 18, [19])],
  [(18, .iconst 0, 19, []), (19, .ireturn, 20, [])]]
def pm_m12 : pm_Mt := (⟨"PlatformDoors$Leaf", "saysLocked", "(IZ)Z"⟩, prog_3_method_8_code, 2, (some .boolean), pm_c12, 2)
/-- 13: PlatformDoors$Leaf.part(I)I -/
def pm_c13 : pm_Cd := [
  [(0, .iload_n 1, 1, []), (1, .tableswitch 99 0 7 #[47, 52, 60, 68, 76, 81, 89, 94], 48, [100, 48, 53, 61, 69, 77, 82, 90, 95])],
  [],
  [],
  [(48, .aload_n 0, 49, []), (49, .getfield 15, 52, [1, 0, 2]), (52, .ireturn, 53, []), (53, .aload_n 0, 54, []), (54, .getfield 28, 57, [5, 1, 2]), (57, .invokestatic 64, 60, [1, 72]), (60, .ireturn, 61, []), (61, .aload_n 0, 62, []), (62, .invokevirtual 44, 65, [0, 2, 2, 10])],
  [(65, .invokestatic 64, 68, [1, 72]), (68, .ireturn, 69, []), (69, .aload_n 0, 70, []), (70, .invokevirtual 68, 73, [0, 2, 2, 11]), (73, .invokestatic 64, 76, [1, 72]), (76, .ireturn, 77, []), (77, .aload_n 0, 78, []), (78, .getfield 19, 81, [2, 0, 2])],
  [(81, .ireturn, 82, []), (82, .aload_n 0, 83, []), (83, .getfield 38, 86, [8, 1, 2]), (86, .invokestatic 64, 89, [1, 72]), (89, .ireturn, 90, []), (90, .aload_n 0, 91, []), (91, .getfield 22, 94, [3, 0, 2]), (94, .ireturn, 95, []), (95, .aload_n 0, 96, [])],
  [(96, .getfield 25, 99, [4, 0, 2]), (99, .ireturn, 100, []), (100, .iconst (-1), 101, []), (101, .ireturn, 102, [])]]
def pm_m13 : pm_Mt := (⟨"PlatformDoors$Leaf", "part", "(I)I"⟩, prog_3_method_9_code, 2, (some .int), pm_c13, 1)
/-- 14: PlatformDoors$Line.<init>()V -/
def pm_c14 : pm_Cd := [
  [(0, .aload_n 0, 1, []), (1, .invokespecial 3, 4, []), (4, .aload_n 0, 5, []), (5, .bipush 12, 7, []), (7, .anewarray 9, 10, [2]), (10, .putfield 11, 13, [0, 2, 0, 3]), (13, .iconst 0, 14, []), (14, .istore_n 1, 15, []), (15, .iload_n 1, 16, [])],
  [(16, .bipush 12, 18, []), (18, .if_icmp .ge 22, 21, [40]), (21, .aload_n 0, 22, []), (22, .getfield 11, 25, [0, 2, 3]), (25, .iload_n 1, 26, []), (26, .new 9, 29, [1]), (29, .dup, 30, []), (30, .invokespecial 17, 33, [0, 0])],
  [(33, .aastore, 34, []), (34, .iinc 1 1, 37, []), (37, .goto (-22), 40, [15]), (40, .return_, 41, [])]]
def pm_m14 : pm_Mt := (⟨"PlatformDoors$Line", "<init>", "()V"⟩, prog_4_method_1_code, 2, none, pm_c14, 0)
/-- 15: PlatformDoors$Line.isFull()Z -/
def pm_c15 : pm_Cd := [
  [(0, .aload_n 0, 1, []), (1, .getfield 18, 4, [1, 0, 3]), (4, .bipush 12, 6, []), (6, .if_icmp .lt 7, 9, [13]), (9, .iconst 1, 10, []), (10, .goto 4, 13, [14]), (13, .iconst 0, 14, []), (14, .ireturn, 15, [])]]
def pm_m15 : pm_Mt := (⟨"PlatformDoors$Line", "isFull", "()Z"⟩, prog_4_method_2_code, 1, (some .boolean), pm_c15, 2)
/-- 16: PlatformDoors$Line.lengthen()LPlatformDoors$Frame; -/
def pm_c16 : pm_Cd := [
  [(0, .aload_n 0, 1, []), (1, .dup, 2, []), (2, .getfield 18, 5, [1, 0, 3]), (5, .iconst 1, 6, []), (6, .iadd, 7, []), (7, .putfield 18, 10, [1, 0, 0, 3]), (10, .aload_n 0, 11, []), (11, .getfield 11, 14, [0, 2, 3]), (14, .aload_n 0, 15, []), (15, .getfield 18, 18, [1, 0, 3])],
  [(18, .iconst 1, 19, []), (19, .isub, 20, []), (20, .aaload, 21, []), (21, .areturn, 22, [])]]
def pm_m16 : pm_Mt := (⟨"PlatformDoors$Line", "lengthen", "()LPlatformDoors$Frame;"⟩, prog_4_method_3_code, 1, (some (.object "PlatformDoors$Frame")), pm_c16, 3)
/-- 17: PlatformDoors$Line.removeAt(I)V -/
def pm_c17 : pm_Cd := [
  [(0, .aload_n 0, 1, []), (1, .getfield 11, 4, [0, 2, 3]), (4, .iload_n 1, 5, []), (5, .aaload, 6, []), (6, .astore_n 2, 7, []), (7, .iload_n 1, 8, []), (8, .istore_n 3, 9, []), (9, .iload_n 3, 10, []), (10, .aload_n 0, 11, []), (11, .getfield 18, 14, [1, 0, 3]), (14, .iconst 1, 15, []), (15, .isub, 16, [])],
  [(16, .if_icmp .ge 23, 19, [39]), (19, .aload_n 0, 20, []), (20, .getfield 11, 23, [0, 2, 3]), (23, .iload_n 3, 24, []), (24, .aload_n 0, 25, []), (25, .getfield 11, 28, [0, 2, 3]), (28, .iload_n 3, 29, []), (29, .iconst 1, 30, []), (30, .iadd, 31, []), (31, .aaload, 32, [])],
  [(32, .aastore, 33, []), (33, .iinc 3 1, 36, []), (36, .goto (-27), 39, [9]), (39, .aload_n 0, 40, []), (40, .dup, 41, []), (41, .getfield 18, 44, [1, 0, 3]), (44, .iconst 1, 45, []), (45, .isub, 46, []), (46, .putfield 18, 49, [1, 0, 0, 3])],
  [(49, .aload_n 0, 50, []), (50, .getfield 11, 53, [0, 2, 3]), (53, .aload_n 0, 54, []), (54, .getfield 18, 57, [1, 0, 3]), (57, .aload_n 2, 58, []), (58, .aastore, 59, []), (59, .return_, 60, [])]]
def pm_m17 : pm_Mt := (⟨"PlatformDoors$Line", "removeAt", "(I)V"⟩, prog_4_method_4_code, 4, none, pm_c17, 0)
/-- 18: PlatformDoors$Line.doubleAt(I)V -/
def pm_c18 : pm_Cd := [
  [(0, .aload_n 0, 1, []), (1, .invokevirtual 22, 4, [0, 3, 3, 16]), (4, .astore_n 2, 5, []), (5, .aload_n 2, 6, []), (6, .aload_n 0, 7, []), (7, .getfield 11, 10, [0, 2, 3]), (10, .iload_n 1, 11, []), (11, .aaload, 12, []), (12, .invokevirtual 26, 15, [1, 1, 1, 2]), (15, .aload_n 0, 16, [])],
  [(16, .getfield 18, 19, [1, 0, 3]), (19, .iconst 1, 20, []), (20, .isub, 21, []), (21, .istore_n 3, 22, []), (22, .iload_n 3, 23, []), (23, .iload_n 1, 24, []), (24, .iconst 1, 25, []), (25, .iadd, 26, []), (26, .if_icmp .le 23, 29, [49]), (29, .aload_n 0, 30, []), (30, .getfield 11, 33, [0, 2, 3])],
  [(33, .iload_n 3, 34, []), (34, .aload_n 0, 35, []), (35, .getfield 11, 38, [0, 2, 3]), (38, .iload_n 3, 39, []), (39, .iconst 1, 40, []), (40, .isub, 41, []), (41, .aaload, 42, []), (42, .aastore, 43, []), (43, .iinc 3 (-1), 46, []), (46, .goto (-24), 49, [22])],
  [(49, .aload_n 0, 50, []), (50, .getfield 11, 53, [0, 2, 3]), (53, .iload_n 1, 54, []), (54, .iconst 1, 55, []), (55, .iadd, 56, []), (56, .aload_n 2, 57, []), (57, .aastore, 58, []), (58, .return_, 59, [])]]
def pm_m18 : pm_Mt := (⟨"PlatformDoors$Line", "doubleAt", "(I)V"⟩, prog_4_method_5_code, 4, none, pm_c18, 0)
/-- 19: PlatformDoors$Side.<init>(LPlatformDoors$Line;LPlatformDoors$Line;)V -/
def pm_c19 : pm_Cd := [
  [(0, .aload_n 0, 1, []), (1, .invokespecial 3, 4, []), (4, .aload_n 0, 5, []), (5, .bipush 8, 7, []), (7, .anewarray 9, 10, [3]), (10, .putfield 11, 13, [0, 2, 0, 4, 5]), (13, .aload_n 0, 14, []), (14, .new 17, 17, [1])],
  [(17, .dup, 18, []), (18, .invokespecial 19, 21, [0, 0]), (21, .putfield 20, 24, [1, 2, 0, 4, 5]), (24, .aload_n 0, 25, []), (25, .aload_n 1, 26, []), (26, .putfield 24, 29, [2, 2, 0, 4, 5]), (29, .aload_n 0, 30, []), (30, .aload_n 2, 31, []), (31, .putfield 28, 34, [3, 2, 0, 4, 5])],
  [(34, .iconst 0, 35, []), (35, .istore_n 3, 36, []), (36, .iload_n 3, 37, []), (37, .bipush 8, 39, []), (39, .if_icmp .ge 22, 42, [61]), (42, .aload_n 0, 43, []), (43, .getfield 11, 46, [0, 2, 4, 5]), (46, .iload_n 3, 47, []), (47, .new 9, 50, [2])],
  [(50, .dup, 51, []), (51, .invokespecial 31, 54, [0, 5]), (54, .aastore, 55, []), (55, .iinc 3 1, 58, []), (58, .goto (-22), 61, [36]), (61, .return_, 62, [])]]
def pm_m19 : pm_Mt := (⟨"PlatformDoors$Side", "<init>", "(LPlatformDoors$Line;LPlatformDoors$Line;)V"⟩, prog_6_method_1_code, 4, none, pm_c19, 0)
/-- 20: PlatformDoors$Side.restartSide()V -/
def pm_c20 : pm_Cd := [
  [(0, .iconst 0, 1, []), (1, .istore_n 1, 2, []), (2, .iload_n 1, 3, []), (3, .bipush 8, 5, []), (5, .if_icmp .ge 18, 8, [23]), (8, .aload_n 0, 9, []), (9, .getfield 11, 12, [0, 2, 4, 5]), (12, .iload_n 1, 13, []), (13, .aaload, 14, []), (14, .invokevirtual 32, 17, [0, 2, 2, 6])],
  [(17, .iinc 1 1, 20, []), (20, .goto (-18), 23, [2]), (23, .aload_n 0, 24, []), (24, .getfield 20, 27, [1, 2, 4, 5]), (27, .invokevirtual 35, 30, [0, 1, 1, 1]), (30, .aload_n 0, 31, []), (31, .getfield 24, 34, [2, 2, 4, 5])],
  [(34, .iconst 0, 35, []), (35, .putfield 36, 38, [1, 0, 0, 3]), (38, .aload_n 0, 39, []), (39, .iconst 0, 40, []), (40, .putfield 42, 43, [4, 0, 0, 4, 5]), (43, .aload_n 0, 44, []), (44, .iconst 0, 45, []), (45, .putfield 45, 48, [5, 0, 0, 4, 5])],
  [(48, .aload_n 0, 49, []), (49, .iconst 0, 50, []), (50, .putfield 48, 53, [6, 0, 0, 4, 5]), (53, .aload_n 0, 54, []), (54, .iconst 0, 55, []), (55, .putfield 51, 58, [7, 0, 0, 4, 5]), (58, .aload_n 0, 59, []), (59, .iconst 0, 60, []), (60, .putfield 54, 63, [8, 0, 0, 4, 5]), (63, .return_, 64, [])]]
def pm_m20 : pm_Mt := (⟨"PlatformDoors$Side", "restartSide", "()V"⟩, prog_6_method_7_code, 2, none, pm_c20, 0)
/-- 21: PlatformDoors$Side.advance()V -/
def pm_c21 : pm_Cd := [
  [(0, .aload_n 0, 1, []), (1, .dup, 2, []), (2, .getfield 42, 5, [4, 0, 4, 5]), (5, .iconst 1, 6, []), (6, .iadd, 7, []), (7, .putfield 42, 10, [4, 0, 0, 4, 5]), (10, .aload_n 0, 11, []), (11, .invokevirtual 57, 14, [0, 7, 4, 41, 5, 33]), (14, .aload_n 0, 15, []), (15, .invokevirtual 60, 18, [0, 7, 4, 22, 5, 22])],
  [(18, .iconst 0, 19, []), (19, .istore_n 1, 20, []), (20, .iload_n 1, 21, []), (21, .bipush 8, 23, []), (23, .if_icmp .ge 41, 26, [64]), (26, .aload_n 0, 27, []), (27, .getfield 11, 30, [0, 2, 4, 5]), (30, .iload_n 1, 31, []), (31, .aaload, 32, [])],
  [(32, .aload_n 0, 33, []), (33, .getfield 45, 36, [5, 0, 4, 5]), (36, .ifCond .eq 18, 39, [54]), (39, .aload_n 0, 40, []), (40, .getfield 20, 43, [1, 2, 4, 5]), (43, .iload_n 1, 44, []), (44, .invokevirtual 63, 47, [1, 1, 1, 3]), (47, .ifCond .ne 7, 50, [54])],
  [(50, .iconst 1, 51, []), (51, .goto 4, 54, [55]), (54, .iconst 0, 55, []), (55, .invokevirtual 67, 58, [1, 2, 2, 7]), (58, .iinc 1 1, 61, []), (61, .goto (-41), 64, [20])],
  [(64, .aload_n 0, 65, []), (65, .getfield 42, 68, [4, 0, 4, 5]), (68, .iconst 5, 69, []), (69, .irem, 70, []), (70, .ifCond .ne 7, 73, [77]), (73, .aload_n 0, 74, []), (74, .invokevirtual 71, 77, [0, 7, 4, 23, 5, 23]), (77, .return_, 78, [])]]
def pm_m21 : pm_Mt := (⟨"PlatformDoors$Side", "advance", "()V"⟩, prog_6_method_8_code, 2, none, pm_c21, 0)
/-- 22: PlatformDoors$Side.changeState()V -/
def pm_c22 : pm_Cd := [
  [(0, .aload_n 0, 1, []), (1, .getfield 45, 4, [5, 0, 4, 5]), (4, .ifCond .ne 36, 7, [40]), (7, .aload_n 0, 8, []), (8, .invokevirtual 74, 11, [0, 7, 4, 42, 5, 34]), (11, .ifCond .eq 80, 14, [91]), (14, .aload_n 0, 15, []), (15, .iconst 1, 16, [])],
  [(16, .putfield 45, 19, [5, 0, 0, 4, 5]), (19, .aload_n 0, 20, []), (20, .aload_n 0, 21, []), (21, .getfield 42, 24, [4, 0, 4, 5]), (24, .putfield 51, 27, [7, 0, 0, 4, 5]), (27, .aload_n 0, 28, []), (28, .dup, 29, []), (29, .getfield 54, 32, [8, 0, 4, 5])],
  [(32, .iconst 1, 33, []), (33, .iadd, 34, []), (34, .putfield 54, 37, [8, 0, 0, 4, 5]), (37, .goto 54, 40, [91]), (40, .aload_n 0, 41, []), (41, .getfield 45, 44, [5, 0, 4, 5]), (44, .iconst 1, 45, []), (45, .if_icmp .ne 26, 48, [71])],
  [(48, .aload_n 0, 49, []), (49, .invokevirtual 78, 52, [0, 7, 4, 43, 5, 35]), (52, .ifCond .eq 39, 55, [91]), (55, .aload_n 0, 56, []), (56, .iconst 2, 57, []), (57, .putfield 45, 60, [5, 0, 0, 4, 5]), (60, .aload_n 0, 61, []), (61, .aload_n 0, 62, []), (62, .getfield 42, 65, [4, 0, 4, 5])],
  [(65, .putfield 48, 68, [6, 0, 0, 4, 5]), (68, .goto 23, 71, [91]), (71, .aload_n 0, 72, []), (72, .getfield 42, 75, [4, 0, 4, 5]), (75, .aload_n 0, 76, []), (76, .getfield 48, 79, [6, 0, 4, 5]), (79, .isub, 80, [])],
  [(80, .sipush 150, 83, []), (83, .if_icmp .lt 8, 86, [91]), (86, .aload_n 0, 87, []), (87, .iconst 0, 88, []), (88, .putfield 45, 91, [5, 0, 0, 4, 5]), (91, .return_, 92, [])]]
def pm_m22 : pm_Mt := (⟨"PlatformDoors$Side", "changeState", "()V"⟩, prog_6_method_9_code, 1, none, pm_c22, 0)
/-- 23: PlatformDoors$Side.send()V -/
def pm_c23 : pm_Cd := [
  [(0, .aload_n 0, 1, []), (1, .getfield 28, 4, [3, 2, 4, 5]), (4, .invokevirtual 81, 7, [0, 3, 3, 15]), (7, .ifCond .eq 4, 10, [11]), (10, .return_, 11, []), (11, .aload_n 0, 12, []), (12, .getfield 28, 15, [3, 2, 4, 5]), (15, .invokevirtual 84, 18, [0, 3, 3, 16])],
  [(18, .astore_n 1, 19, []), (19, .aload_n 1, 20, []), (20, .aload_n 0, 21, []), (21, .getfield 42, 24, [4, 0, 4, 5]), (24, .iconst 5, 25, []), (25, .idiv, 26, []), (26, .putfield 88, 29, [0, 0, 0, 1]), (29, .aload_n 1, 30, []), (30, .aload_n 0, 31, []), (31, .getfield 20, 34, [1, 2, 4, 5])],
  [(34, .getfield 88, 37, [0, 0, 1]), (37, .putfield 91, 40, [1, 0, 0, 1]), (40, .aload_n 1, 41, []), (41, .aload_n 0, 42, []), (42, .getfield 45, 45, [5, 0, 4, 5]), (45, .putfield 94, 48, [2, 0, 0, 1])],
  [(48, .aload_n 1, 49, []), (49, .aload_n 0, 50, []), (50, .invokevirtual 95, 53, [0, 7, 4, 29, 5, 29]), (53, .putfield 99, 56, [3, 0, 0, 1]), (56, .aload_n 1, 57, []), (57, .aload_n 0, 58, []), (58, .invokevirtual 101, 61, [0, 7, 4, 44, 5, 36]), (61, .putfield 104, 64, [4, 1, 0, 1])],
  [(64, .aload_n 1, 65, []), (65, .aload_n 0, 66, []), (66, .invokevirtual 108, 69, [0, 7, 4, 45, 5, 37]), (69, .putfield 111, 72, [5, 1, 0, 1]), (72, .return_, 73, [])]]
def pm_m23 : pm_Mt := (⟨"PlatformDoors$Side", "send", "()V"⟩, prog_6_method_10_code, 2, none, pm_c23, 0)
/-- 24: PlatformDoors$Side.takes(LPlatformDoors$Frame;)Z -/
def pm_c24 : pm_Cd := [
  [(0, .aload_n 1, 1, []), (1, .getfield 88, 4, [0, 0, 1]), (4, .aload_n 0, 5, []), (5, .getfield 20, 8, [1, 2, 4, 5]), (8, .getfield 88, 11, [0, 0, 1]), (11, .if_icmp .gt 5, 14, [16]), (14, .iconst 0, 15, []), (15, .ireturn, 16, [])],
  [(16, .aload_n 0, 17, []), (17, .getfield 20, 20, [1, 2, 4, 5]), (20, .aload_n 1, 21, []), (21, .invokevirtual 114, 24, [1, 1, 1, 2]), (24, .iconst 1, 25, []), (25, .ireturn, 26, [])]]
def pm_m24 : pm_Mt := (⟨"PlatformDoors$Side", "takes", "(LPlatformDoors$Frame;)Z"⟩, prog_6_method_11_code, 2, (some .boolean), pm_c24, 2)
/-- 25: PlatformDoors$Side.age()I -/
def pm_c25 : pm_Cd := [
  [(0, .aload_n 0, 1, []), (1, .getfield 20, 4, [1, 2, 4, 5]), (4, .getfield 91, 7, [1, 0, 1]), (7, .ifCond .ne 8, 10, [15]), (10, .bipush (-2), 12, []), (12, .goto 17, 15, [29]), (15, .aload_n 0, 16, [])],
  [(16, .getfield 42, 19, [4, 0, 4, 5]), (19, .aload_n 0, 20, []), (20, .getfield 20, 23, [1, 2, 4, 5]), (23, .getfield 91, 26, [1, 0, 1]), (26, .iconst 5, 27, []), (27, .imul, 28, []), (28, .isub, 29, []), (29, .ireturn, 30, [])]]
def pm_m25 : pm_Mt := (⟨"PlatformDoors$Side", "age", "()I"⟩, prog_6_method_12_code, 1, (some .int), pm_c25, 1)
/-- 26: PlatformDoors$Side.isFresh()Z -/
def pm_c26 : pm_Cd := [
  [(0, .aload_n 0, 1, []), (1, .invokevirtual 118, 4, [0, 7, 4, 25, 5, 25]), (4, .istore_n 1, 5, []), (5, .iload_n 1, 6, []), (6, .bipush (-2), 8, []), (8, .if_icmp .eq 13, 11, [21]), (11, .iload_n 1, 12, []), (12, .bipush 25, 14, []), (14, .if_icmp .gt 7, 17, [21])],
  [(17, .iconst 1, 18, []), (18, .goto 4, 21, [22]), (21, .iconst 0, 22, []), (22, .ireturn, 23, [])]]
def pm_m26 : pm_Mt := (⟨"PlatformDoors$Side", "isFresh", "()Z"⟩, prog_6_method_13_code, 2, (some .boolean), pm_c26, 2)
/-- 27: PlatformDoors$Side.isStale()Z -/
def pm_c27 : pm_Cd := [
  [(0, .aload_n 0, 1, []), (1, .invokevirtual 118, 4, [0, 7, 4, 25, 5, 25]), (4, .istore_n 1, 5, []), (5, .iload_n 1, 6, []), (6, .bipush (-2), 8, []), (8, .if_icmp .eq 9, 11, [17]), (11, .iload_n 1, 12, []), (12, .bipush 75, 14, []), (14, .if_icmp .le 7, 17, [21])],
  [(17, .iconst 1, 18, []), (18, .goto 4, 21, [22]), (21, .iconst 0, 22, []), (22, .ireturn, 23, [])]]
def pm_m27 : pm_Mt := (⟨"PlatformDoors$Side", "isStale", "()Z"⟩, prog_6_method_14_code, 2, (some .boolean), pm_c27, 2)
/-- 28: PlatformDoors$Side.countToldLocked()I -/
def pm_c28 : pm_Cd := [
  [(0, .iconst 0, 1, []), (1, .istore_n 1, 2, []), (2, .iconst 0, 3, []), (3, .istore_n 2, 4, []), (4, .iload_n 2, 5, []), (5, .bipush 8, 7, []), (7, .if_icmp .ge 24, 10, [31]), (10, .iload_n 1, 11, []), (11, .aload_n 0, 12, []), (12, .getfield 11, 15, [0, 2, 4, 5]), (15, .iload_n 2, 16, [])],
  [(16, .aaload, 17, []), (17, .invokevirtual 121, 20, [0, 2, 2, 11]), (20, .invokestatic 124, 23, [1, 72]), (23, .iadd, 24, []), (24, .istore_n 1, 25, []), (25, .iinc 2 1, 28, []), (28, .goto (-24), 31, [4]), (31, .iload_n 1, 32, [])],
  [(32, .ireturn, 33, [])]]
def pm_m28 : pm_Mt := (⟨"PlatformDoors$Side", "countToldLocked", "()I"⟩, prog_6_method_15_code, 3, (some .int), pm_c28, 1)
/-- 29: PlatformDoors$Side.isolatedBits()I -/
def pm_c29 : pm_Cd := [
  [(0, .iconst 0, 1, []), (1, .istore_n 1, 2, []), (2, .iconst 0, 3, []), (3, .istore_n 2, 4, []), (4, .iload_n 2, 5, []), (5, .bipush 8, 7, []), (7, .if_icmp .ge 26, 10, [33]), (10, .iload_n 1, 11, []), (11, .aload_n 0, 12, []), (12, .getfield 11, 15, [0, 2, 4, 5]), (15, .iload_n 2, 16, [])],
  [(16, .aaload, 17, []), (17, .getfield 128, 20, [6, 1, 2]), (20, .invokestatic 124, 23, [1, 72]), (23, .iload_n 2, 24, []), (24, .ishl, 25, []), (25, .ior, 26, []), (26, .istore_n 1, 27, []), (27, .iinc 2 1, 30, []), (30, .goto (-26), 33, [4])],
  [(33, .iload_n 1, 34, []), (34, .ireturn, 35, [])]]
def pm_m29 : pm_Mt := (⟨"PlatformDoors$Side", "isolatedBits", "()I"⟩, prog_6_method_16_code, 3, (some .int), pm_c29, 1)
/-- 30: PlatformDoors$Side.part(I)I -/
def pm_c30 : pm_Cd := [
  [(0, .iload_n 1, 1, []), (1, .tableswitch 96 0 7 #[47, 52, 57, 62, 70, 78, 83, 91], 48, [97, 48, 53, 58, 63, 71, 79, 84, 92])],
  [],
  [],
  [(48, .aload_n 0, 49, []), (49, .getfield 42, 52, [4, 0, 4, 5]), (52, .ireturn, 53, []), (53, .aload_n 0, 54, []), (54, .getfield 45, 57, [5, 0, 4, 5]), (57, .ireturn, 58, []), (58, .aload_n 0, 59, []), (59, .invokevirtual 118, 62, [0, 7, 4, 25, 5, 25]), (62, .ireturn, 63, []), (63, .aload_n 0, 64, [])],
  [(64, .getfield 20, 67, [1, 2, 4, 5]), (67, .getfield 88, 70, [0, 0, 1]), (70, .ireturn, 71, []), (71, .aload_n 0, 72, []), (72, .getfield 24, 75, [2, 2, 4, 5]), (75, .getfield 36, 78, [1, 0, 3]), (78, .ireturn, 79, []), (79, .aload_n 0, 80, [])],
  [(80, .invokevirtual 131, 83, [0, 7, 4, 28, 5, 28]), (83, .ireturn, 84, []), (84, .aload_n 0, 85, []), (85, .invokevirtual 101, 88, [0, 7, 4, 44, 5, 36]), (88, .invokestatic 124, 91, [1, 72]), (91, .ireturn, 92, []), (92, .aload_n 0, 93, []), (93, .getfield 54, 96, [8, 0, 4, 5])],
  [(96, .ireturn, 97, []), (97, .iconst (-1), 98, []), (98, .ireturn, 99, [])]]
def pm_m30 : pm_Mt := (⟨"PlatformDoors$Side", "part", "(I)I"⟩, prog_6_method_17_code, 2, (some .int), pm_c30, 1)
/-- 31: PlatformDoors$Train.<init>(LPlatformDoors$Line;LPlatformDoors$Line;)V -/
def pm_c31 : pm_Cd := [
  [(0, .aload_n 0, 1, []), (1, .aload_n 1, 2, []), (2, .aload_n 2, 3, []), (3, .invokespecial 3, 6, [2, 19]), (6, .return_, 7, [])]]
def pm_m31 : pm_Mt := (⟨"PlatformDoors$Train", "<init>", "(LPlatformDoors$Line;LPlatformDoors$Line;)V"⟩, prog_7_method_1_code, 3, none, pm_c31, 0)
/-- 32: PlatformDoors$Train.restartTrain()V -/
def pm_c32 : pm_Cd := [
  [(0, .aload_n 0, 1, []), (1, .invokevirtual 9, 4, [0, 5, 5, 20]), (4, .aload_n 0, 5, []), (5, .iconst 0, 6, []), (6, .putfield 15, 9, [9, 0, 0, 5]), (9, .aload_n 0, 10, []), (10, .iconst 1, 11, []), (11, .putfield 19, 14, [10, 0, 0, 5]), (14, .aload_n 0, 15, []), (15, .iconst 0, 16, [])],
  [(16, .putfield 22, 19, [11, 0, 0, 5]), (19, .aload_n 0, 20, []), (20, .iconst 0, 21, []), (21, .putfield 25, 24, [12, 0, 0, 5]), (24, .aload_n 0, 25, []), (25, .iconst 0, 26, []), (26, .putfield 28, 29, [13, 1, 0, 5]), (29, .return_, 30, [])]]
def pm_m32 : pm_Mt := (⟨"PlatformDoors$Train", "restartTrain", "()V"⟩, prog_7_method_2_code, 1, none, pm_c32, 0)
/-- 33: PlatformDoors$Train.look()V -/
def pm_c33 : pm_Cd := [
  [(0, .aload_n 0, 1, []), (1, .aload_n 0, 2, []), (2, .getfield 19, 5, [10, 0, 5]), (5, .ifCond .ne 12, 8, [17]), (8, .aload_n 0, 9, []), (9, .getfield 25, 12, [12, 0, 5]), (12, .iconst 1, 13, []), (13, .iadd, 14, []), (14, .goto 4, 17, [18])],
  [(17, .iconst 0, 18, []), (18, .putfield 25, 21, [12, 0, 0, 5]), (21, .return_, 22, [])]]
def pm_m33 : pm_Mt := (⟨"PlatformDoors$Train", "look", "()V"⟩, prog_7_method_3_code, 1, none, pm_c33, 0)
/-- 34: PlatformDoors$Train.mayOpen()Z -/
def pm_c34 : pm_Cd := [
  [(0, .aload_n 0, 1, []), (1, .getfield 28, 4, [13, 1, 5]), (4, .ifCond .eq 32, 7, [36]), (7, .aload_n 0, 8, []), (8, .invokevirtual 32, 11, [0, 5, 5, 38]), (11, .ifCond .eq 25, 14, [36]), (14, .aload_n 0, 15, []), (15, .invokevirtual 36, 18, [0, 5, 5, 26])],
  [(18, .ifCond .eq 18, 21, [36]), (21, .aload_n 0, 22, []), (22, .getfield 39, 25, [1, 2, 5]), (25, .getfield 43, 28, [2, 0, 1]), (28, .iconst 1, 29, []), (29, .if_icmp .ne 7, 32, [36])],
  [(32, .iconst 1, 33, []), (33, .goto 4, 36, [37]), (36, .iconst 0, 37, []), (37, .ireturn, 38, [])]]
def pm_m34 : pm_Mt := (⟨"PlatformDoors$Train", "mayOpen", "()Z"⟩, prog_7_method_4_code, 1, (some .boolean), pm_c34, 2)
/-- 35: PlatformDoors$Train.mustWarn()Z -/
def pm_c35 : pm_Cd := [
  [(0, .aload_n 0, 1, []), (1, .getfield 28, 4, [13, 1, 5]), (4, .ifCond .eq 17, 7, [21]), (7, .aload_n 0, 8, []), (8, .invokevirtual 32, 11, [0, 5, 5, 38]), (11, .ifCond .eq 10, 14, [21]), (14, .aload_n 0, 15, []), (15, .invokevirtual 48, 18, [0, 5, 5, 27])],
  [(18, .ifCond .eq 7, 21, [25]), (21, .iconst 1, 22, []), (22, .goto 4, 25, [26]), (25, .iconst 0, 26, []), (26, .ireturn, 27, [])]]
def pm_m35 : pm_Mt := (⟨"PlatformDoors$Train", "mustWarn", "()Z"⟩, prog_7_method_5_code, 1, (some .boolean), pm_c35, 2)
/-- 36: PlatformDoors$Train.isAssured()Z -/
def pm_c36 : pm_Cd := [
  [(0, .aload_n 0, 1, []), (1, .invokevirtual 32, 4, [0, 5, 5, 38]), (4, .ireturn, 5, [])]]
def pm_m36 : pm_Mt := (⟨"PlatformDoors$Train", "isAssured", "()Z"⟩, prog_7_method_6_code, 1, (some .boolean), pm_c36, 2)
/-- 37: PlatformDoors$Train.commandsToOpen()Z -/
def pm_c37 : pm_Cd := [
  [(0, .aload_n 0, 1, []), (1, .getfield 28, 4, [13, 1, 5]), (4, .ireturn, 5, [])]]
def pm_m37 : pm_Mt := (⟨"PlatformDoors$Train", "commandsToOpen", "()Z"⟩, prog_7_method_7_code, 1, (some .boolean), pm_c37, 2)
/-- 38: PlatformDoors$Train.isReady()Z -/
def pm_c38 : pm_Cd := [
  [(0, .aload_n 0, 1, []), (1, .getfield 25, 4, [12, 0, 5]), (4, .bipush 20, 6, []), (6, .if_icmp .lt 28, 9, [34]), (9, .aload_n 0, 10, []), (10, .getfield 15, 13, [9, 0, 5]), (13, .aload_n 0, 14, []), (14, .getfield 22, 17, [11, 0, 5])],
  [(17, .iadd, 18, []), (18, .sipush (-250), 21, []), (21, .sipush 250, 24, []), (24, .invokestatic 51, 27, [3, 71]), (27, .ifCond .eq 7, 30, [34]), (30, .iconst 1, 31, []), (31, .goto 4, 34, [35])],
  [(34, .iconst 0, 35, []), (35, .ireturn, 36, [])]]
def pm_m38 : pm_Mt := (⟨"PlatformDoors$Train", "isReady", "()Z"⟩, prog_7_method_8_code, 1, (some .boolean), pm_c38, 2)
/-- 39: PlatformDoors$Train.standsAtMark()Z -/
def pm_c39 : pm_Cd := [
  [(0, .aload_n 0, 1, []), (1, .getfield 19, 4, [10, 0, 5]), (4, .ifCond .ne 23, 7, [27]), (7, .aload_n 0, 8, []), (8, .getfield 15, 11, [9, 0, 5]), (11, .sipush (-350), 14, []), (14, .sipush 350, 17, [])],
  [(17, .invokestatic 51, 20, [3, 71]), (20, .ifCond .eq 7, 23, [27]), (23, .iconst 1, 24, []), (24, .goto 4, 27, [28]), (27, .iconst 0, 28, []), (28, .ireturn, 29, [])]]
def pm_m39 : pm_Mt := (⟨"PlatformDoors$Train", "standsAtMark", "()Z"⟩, prog_7_method_9_code, 1, (some .boolean), pm_c39, 2)
/-- 40: PlatformDoors$Platform.<init>(LPlatformDoors$Line;LPlatformDoors$Line;)V -/
def pm_c40 : pm_Cd := [
  [(0, .aload_n 0, 1, []), (1, .aload_n 1, 2, []), (2, .aload_n 2, 3, []), (3, .invokespecial 3, 6, [2, 19]), (6, .return_, 7, [])]]
def pm_m40 : pm_Mt := (⟨"PlatformDoors$Platform", "<init>", "(LPlatformDoors$Line;LPlatformDoors$Line;)V"⟩, prog_5_method_1_code, 3, none, pm_c40, 0)
/-- 41: PlatformDoors$Platform.look()V -/
def pm_c41 : pm_Cd := [
  [(0, .return_, 1, [])]]
def pm_m41 : pm_Mt := (⟨"PlatformDoors$Platform", "look", "()V"⟩, prog_5_method_2_code, 1, none, pm_c41, 0)
/-- 42: PlatformDoors$Platform.mayOpen()Z -/
def pm_c42 : pm_Cd := [
  [(0, .aload_n 0, 1, []), (1, .invokevirtual 9, 4, [0, 4, 4, 26]), (4, .ifCond .eq 27, 7, [31]), (7, .aload_n 0, 8, []), (8, .getfield 15, 11, [1, 2, 4]), (11, .getfield 19, 14, [4, 1, 1]), (14, .ifCond .eq 17, 17, [31])],
  [(17, .aload_n 0, 18, []), (18, .getfield 15, 21, [1, 2, 4]), (21, .getfield 25, 24, [5, 1, 1]), (24, .ifCond .eq 7, 27, [31]), (27, .iconst 1, 28, []), (28, .goto 4, 31, [32]), (31, .iconst 0, 32, [])],
  [(32, .ireturn, 33, [])]]
def pm_m42 : pm_Mt := (⟨"PlatformDoors$Platform", "mayOpen", "()Z"⟩, prog_5_method_3_code, 1, (some .boolean), pm_c42, 2)
/-- 43: PlatformDoors$Platform.mustWarn()Z -/
def pm_c43 : pm_Cd := [
  [(0, .aload_n 0, 1, []), (1, .invokevirtual 28, 4, [0, 4, 4, 27]), (4, .ifCond .ne 23, 7, [27]), (7, .aload_n 0, 8, []), (8, .getfield 15, 11, [1, 2, 4]), (11, .getfield 19, 14, [4, 1, 1]), (14, .ifCond .eq 13, 17, [27])],
  [(17, .aload_n 0, 18, []), (18, .getfield 15, 21, [1, 2, 4]), (21, .getfield 25, 24, [5, 1, 1]), (24, .ifCond .ne 7, 27, [31]), (27, .iconst 1, 28, []), (28, .goto 4, 31, [32]), (31, .iconst 0, 32, [])],
  [(32, .ireturn, 33, [])]]
def pm_m43 : pm_Mt := (⟨"PlatformDoors$Platform", "mustWarn", "()Z"⟩, prog_5_method_4_code, 1, (some .boolean), pm_c43, 2)
/-- 44: PlatformDoors$Platform.isAssured()Z -/
def pm_c44 : pm_Cd := [
  [(0, .aload_n 0, 1, []), (1, .invokevirtual 31, 4, [0, 4, 4, 28]), (4, .bipush 8, 6, []), (6, .if_icmp .ne 7, 9, [13]), (9, .iconst 1, 10, []), (10, .goto 4, 13, [14]), (13, .iconst 0, 14, []), (14, .ireturn, 15, [])]]
def pm_m44 : pm_Mt := (⟨"PlatformDoors$Platform", "isAssured", "()Z"⟩, prog_5_method_5_code, 1, (some .boolean), pm_c44, 2)
/-- 45: PlatformDoors$Platform.commandsToOpen()Z -/
def pm_c45 : pm_Cd := [
  [(0, .iconst 0, 1, []), (1, .ireturn, 2, [])]]
def pm_m45 : pm_Mt := (⟨"PlatformDoors$Platform", "commandsToOpen", "()Z"⟩, prog_5_method_6_code, 1, (some .boolean), pm_c45, 2)
/-- 46: PlatformDoors.<init>()V -/
def pm_c46 : pm_Cd := [
  [(0, .aload_n 0, 1, []), (1, .invokespecial 1, 4, []), (4, .new 7, 7, [3]), (7, .dup, 8, []), (8, .invokespecial 9, 11, [0, 14]), (11, .astore_n 1, 12, []), (12, .new 7, 15, [3]), (15, .dup, 16, [])],
  [(16, .invokespecial 9, 19, [0, 14]), (19, .astore_n 2, 20, []), (20, .aload_n 0, 21, []), (21, .new 10, 24, [5]), (24, .dup, 25, []), (25, .aload_n 1, 26, []), (26, .aload_n 2, 27, []), (27, .invokespecial 12, 30, [2, 31]), (30, .putfield 15, 33, [0, 2, 0, 0])],
  [(33, .aload_n 0, 34, []), (34, .new 21, 37, [4]), (37, .dup, 38, []), (38, .aload_n 2, 39, []), (39, .aload_n 1, 40, []), (40, .invokespecial 23, 43, [2, 40]), (43, .putfield 24, 46, [1, 2, 0, 0]), (46, .aload_n 0, 47, []), (47, .invokevirtual 28, 50, [0, 0, 0, 64])],
  [(50, .return_, 51, [])]]
def pm_m46 : pm_Mt := (⟨"PlatformDoors", "<init>", "()V"⟩, prog_1_method_1_code, 3, none, pm_c46, 0)
/-- 47: PlatformDoors.begin()V -/
def pm_c47 : pm_Cd := [
  [(0, .aload_n 0, 1, []), (1, .invokevirtual 28, 4, [0, 0, 0, 64]), (4, .return_, 5, [])]]
def pm_m47 : pm_Mt := (⟨"PlatformDoors", "begin", "()V"⟩, prog_1_method_2_code, 1, none, pm_c47, 0)
/-- 48: PlatformDoors.step(II)I -/
def pm_c48 : pm_Cd := [
  [(0, .iload_n 1, 1, []), (1, .invokestatic 31, 4, [1, 69]), (4, .ifCond .eq 14, 7, [18]), (7, .iload_n 2, 8, []), (8, .iconst 1, 9, []), (9, .sipush 500, 12, []), (12, .invokestatic 35, 15, [3, 71]), (15, .ifCond .ne 5, 18, [20])],
  [(18, .iconst (-1), 19, []), (19, .ireturn, 20, []), (20, .aload_n 0, 21, []), (21, .iload_n 1, 22, []), (22, .invokevirtual 39, 25, [1, 0, 0, 67]), (25, .astore_n 3, 26, []), (26, .iconst 0, 27, []), (27, .istore 4, 29, []), (29, .iload 4, 31, []), (31, .iload_n 2, 32, [])],
  [(32, .if_icmp .ge 28, 35, [60]), (35, .aload_n 3, 36, []), (36, .invokevirtual 43, 39, [0, 7, 4, 21, 5, 21]), (39, .iload_n 1, 40, []), (40, .ifCond .ne 10, 43, [50]), (43, .aload_n 0, 44, []), (44, .invokevirtual 48, 47, [0, 0, 0, 65]), (47, .goto 7, 50, [54])],
  [(50, .aload_n 0, 51, []), (51, .invokevirtual 51, 54, [0, 0, 0, 66]), (54, .iinc 4 1, 57, []), (57, .goto (-28), 60, [29]), (60, .aload_n 3, 61, []), (61, .getfield 54, 64, [4, 0, 4, 5])],
  [(64, .ireturn, 65, [])]]
def pm_m48 : pm_Mt := (⟨"PlatformDoors", "step", "(II)I"⟩, prog_1_method_3_code, 5, (some .int), pm_c48, 1)
/-- 49: PlatformDoors.arrive(II)I -/
def pm_c49 : pm_Cd := [
  [(0, .iload_n 1, 1, []), (1, .ldc 58, 3, [2000000, 1]), (3, .ldc 59, 5, [2000000, 0]), (5, .invokestatic 35, 8, [3, 71]), (8, .ifCond .eq 14, 11, [22]), (11, .iload_n 2, 12, []), (12, .iconst 0, 13, []), (13, .sipush 30000, 16, [])],
  [(16, .invokestatic 35, 19, [3, 71]), (19, .ifCond .ne 5, 22, [24]), (22, .iconst (-1), 23, []), (23, .ireturn, 24, []), (24, .aload_n 0, 25, []), (25, .getfield 15, 28, [0, 2, 0]), (28, .iload_n 1, 29, []), (29, .putfield 60, 32, [9, 0, 0, 5])],
  [(32, .aload_n 0, 33, []), (33, .getfield 15, 36, [0, 2, 0]), (36, .iload_n 2, 37, []), (37, .putfield 63, 40, [10, 0, 0, 5]), (40, .iconst 0, 41, []), (41, .ireturn, 42, [])]]
def pm_m49 : pm_Mt := (⟨"PlatformDoors", "arrive", "(II)I"⟩, prog_1_method_4_code, 3, (some .int), pm_c49, 1)
/-- 50: PlatformDoors.error(I)I -/
def pm_c50 : pm_Cd := [
  [(0, .iload_n 1, 1, []), (1, .sipush (-1000), 4, []), (4, .sipush 1000, 7, []), (7, .invokestatic 35, 10, [3, 71]), (10, .ifCond .ne 7, 13, [17]), (13, .sipush (-2000), 16, [])],
  [(16, .ireturn, 17, []), (17, .aload_n 0, 18, []), (18, .getfield 15, 21, [0, 2, 0]), (21, .getfield 66, 24, [11, 0, 5]), (24, .istore_n 2, 25, []), (25, .aload_n 0, 26, []), (26, .getfield 15, 29, [0, 2, 0]), (29, .iload_n 1, 30, []), (30, .putfield 66, 33, [11, 0, 0, 5])],
  [(33, .iload_n 2, 34, []), (34, .ireturn, 35, [])]]
def pm_m50 : pm_Mt := (⟨"PlatformDoors", "error", "(I)I"⟩, prog_1_method_5_code, 3, (some .int), pm_c50, 1)
/-- 51: PlatformDoors.command(Z)Z -/
def pm_c51 : pm_Cd := [
  [(0, .aload_n 0, 1, []), (1, .getfield 15, 4, [0, 2, 0]), (4, .getfield 69, 7, [13, 1, 5]), (7, .istore_n 2, 8, []), (8, .aload_n 0, 9, []), (9, .getfield 15, 12, [0, 2, 0]), (12, .iload_n 1, 13, []), (13, .putfield 69, 16, [13, 1, 0, 5])],
  [(16, .iload_n 2, 17, []), (17, .ireturn, 18, [])]]
def pm_m51 : pm_Mt := (⟨"PlatformDoors", "command", "(Z)Z"⟩, prog_1_method_6_code, 3, (some .boolean), pm_c51, 2)
/-- 52: PlatformDoors.isolate(IIZ)I -/
def pm_c52 : pm_Cd := [
  [(0, .iload_n 1, 1, []), (1, .invokestatic 31, 4, [1, 69]), (4, .ifCond .eq 10, 7, [14]), (7, .iload_n 2, 8, []), (8, .invokestatic 73, 11, [1, 70]), (11, .ifCond .ne 5, 14, [16]), (14, .iconst (-1), 15, []), (15, .ireturn, 16, [])],
  [(16, .aload_n 0, 17, []), (17, .iload_n 1, 18, []), (18, .invokevirtual 39, 21, [1, 0, 0, 67]), (21, .getfield 76, 24, [0, 2, 4, 5]), (24, .iload_n 2, 25, []), (25, .aaload, 26, []), (26, .astore 4, 28, []), (28, .aload 4, 30, []), (30, .getfield 80, 33, [6, 1, 2])],
  [(33, .invokestatic 85, 36, [1, 72]), (36, .istore 5, 38, []), (38, .aload 4, 40, []), (40, .iload_n 3, 41, []), (41, .putfield 80, 44, [6, 1, 0, 2]), (44, .iload 5, 46, []), (46, .ireturn, 47, [])]]
def pm_m52 : pm_Mt := (⟨"PlatformDoors", "isolate", "(IIZ)I"⟩, prog_1_method_7_code, 6, (some .int), pm_c52, 1)
/-- 53: PlatformDoors.release(IIZ)I -/
def pm_c53 : pm_Cd := [
  [(0, .iload_n 1, 1, []), (1, .invokestatic 31, 4, [1, 69]), (4, .ifCond .eq 10, 7, [14]), (7, .iload_n 2, 8, []), (8, .invokestatic 73, 11, [1, 70]), (11, .ifCond .ne 5, 14, [16]), (14, .iconst (-1), 15, []), (15, .ireturn, 16, [])],
  [(16, .aload_n 0, 17, []), (17, .iload_n 1, 18, []), (18, .invokevirtual 39, 21, [1, 0, 0, 67]), (21, .getfield 76, 24, [0, 2, 4, 5]), (24, .iload_n 2, 25, []), (25, .aaload, 26, []), (26, .astore 4, 28, []), (28, .aload 4, 30, []), (30, .getfield 89, 33, [7, 1, 2])],
  [(33, .invokestatic 85, 36, [1, 72]), (36, .istore 5, 38, []), (38, .aload 4, 40, []), (40, .iload_n 3, 41, []), (41, .putfield 89, 44, [7, 1, 0, 2]), (44, .iload 5, 46, []), (46, .ireturn, 47, [])]]
def pm_m53 : pm_Mt := (⟨"PlatformDoors", "release", "(IIZ)I"⟩, prog_1_method_8_code, 6, (some .int), pm_c53, 1)
/-- 54: PlatformDoors.obstruct(III)I -/
def pm_c54 : pm_Cd := [
  [(0, .iload_n 1, 1, []), (1, .invokestatic 31, 4, [1, 69]), (4, .ifCond .eq 21, 7, [25]), (7, .iload_n 2, 8, []), (8, .invokestatic 73, 11, [1, 70]), (11, .ifCond .eq 14, 14, [25]), (14, .iload_n 3, 15, []), (15, .iconst 0, 16, [])],
  [(16, .sipush 1000, 19, []), (19, .invokestatic 35, 22, [3, 71]), (22, .ifCond .ne 5, 25, [27]), (25, .iconst (-1), 26, []), (26, .ireturn, 27, []), (27, .aload_n 0, 28, []), (28, .iload_n 1, 29, []), (29, .invokevirtual 39, 32, [1, 0, 0, 67])],
  [(32, .getfield 76, 35, [0, 2, 4, 5]), (35, .iload_n 2, 36, []), (36, .aaload, 37, []), (37, .astore 4, 39, []), (39, .aload 4, 41, []), (41, .getfield 92, 44, [4, 0, 2]), (44, .istore 5, 46, []), (46, .aload 4, 48, [])],
  [(48, .iload_n 3, 49, []), (49, .putfield 92, 52, [4, 0, 0, 2]), (52, .iload 5, 54, []), (54, .ireturn, 55, [])]]
def pm_m54 : pm_Mt := (⟨"PlatformDoors", "obstruct", "(III)I"⟩, prog_1_method_9_code, 6, (some .int), pm_c54, 1)
/-- 55: PlatformDoors.contact(IIII)I -/
def pm_c55 : pm_Cd := [
  [(0, .iload_n 1, 1, []), (1, .invokestatic 31, 4, [1, 69]), (4, .ifCond .eq 29, 7, [33]), (7, .iload_n 2, 8, []), (8, .invokestatic 73, 11, [1, 70]), (11, .ifCond .eq 22, 14, [33]), (14, .iload_n 3, 15, []), (15, .iconst 0, 16, [])],
  [(16, .iconst 1, 17, []), (17, .invokestatic 35, 20, [3, 71]), (20, .ifCond .eq 13, 23, [33]), (23, .iload 4, 25, []), (25, .iconst 0, 26, []), (26, .iconst 2, 27, []), (27, .invokestatic 35, 30, [3, 71]), (30, .ifCond .ne 5, 33, [35])],
  [(33, .iconst (-1), 34, []), (34, .ireturn, 35, []), (35, .aload_n 0, 36, []), (36, .iload_n 1, 37, []), (37, .invokevirtual 39, 40, [1, 0, 0, 67]), (40, .getfield 76, 43, [0, 2, 4, 5]), (43, .iload_n 2, 44, []), (44, .aaload, 45, []), (45, .astore 5, 47, []), (47, .aload 5, 49, [])],
  [(49, .getfield 95, 52, [0, 2, 2]), (52, .iload_n 3, 53, []), (53, .iaload, 54, []), (54, .istore 6, 56, []), (56, .aload 5, 58, []), (58, .getfield 95, 61, [0, 2, 2]), (61, .iload_n 3, 62, []), (62, .iload 4, 64, [])],
  [(64, .iastore, 65, []), (65, .iload 6, 67, []), (67, .ireturn, 68, [])]]
def pm_m55 : pm_Mt := (⟨"PlatformDoors", "contact", "(IIII)I"⟩, prog_1_method_10_code, 7, (some .int), pm_c55, 1)
/-- 56: PlatformDoors.deliver(II)I -/
def pm_c56 : pm_Cd := [
  [(0, .aload_n 0, 1, []), (1, .iload_n 1, 2, []), (2, .iload_n 2, 3, []), (3, .invokevirtual 99, 6, [2, 0, 0, 68]), (6, .ifCond .ne 5, 9, [11]), (9, .iconst (-1), 10, []), (10, .ireturn, 11, []), (11, .aload_n 0, 12, []), (12, .iload_n 1, 13, []), (13, .invokevirtual 39, 16, [1, 0, 0, 67])],
  [(16, .astore_n 3, 17, []), (17, .aload_n 3, 18, []), (18, .aload_n 3, 19, []), (19, .getfield 103, 22, [2, 2, 4, 5]), (22, .getfield 107, 25, [0, 2, 3]), (25, .iload_n 2, 26, []), (26, .aaload, 27, []), (27, .invokevirtual 111, 30, [1, 7, 4, 24, 5, 24]), (30, .istore 4, 32, [])],
  [(32, .aload_n 3, 33, []), (33, .getfield 103, 36, [2, 2, 4, 5]), (36, .iload_n 2, 37, []), (37, .invokevirtual 115, 40, [1, 3, 3, 17]), (40, .iload 4, 42, []), (42, .invokestatic 85, 45, [1, 72]), (45, .ireturn, 46, [])]]
def pm_m56 : pm_Mt := (⟨"PlatformDoors", "deliver", "(II)I"⟩, prog_1_method_11_code, 5, (some .int), pm_c56, 1)
/-- 57: PlatformDoors.drop(II)I -/
def pm_c57 : pm_Cd := [
  [(0, .aload_n 0, 1, []), (1, .iload_n 1, 2, []), (2, .iload_n 2, 3, []), (3, .invokevirtual 99, 6, [2, 0, 0, 68]), (6, .ifCond .ne 5, 9, [11]), (9, .iconst (-1), 10, []), (10, .ireturn, 11, []), (11, .aload_n 0, 12, []), (12, .iload_n 1, 13, []), (13, .invokevirtual 39, 16, [1, 0, 0, 67])],
  [(16, .getfield 103, 19, [2, 2, 4, 5]), (19, .astore_n 3, 20, []), (20, .aload_n 3, 21, []), (21, .iload_n 2, 22, []), (22, .invokevirtual 115, 25, [1, 3, 3, 17]), (25, .aload_n 3, 26, []), (26, .getfield 119, 29, [1, 0, 3]), (29, .ireturn, 30, [])]]
def pm_m57 : pm_Mt := (⟨"PlatformDoors", "drop", "(II)I"⟩, prog_1_method_12_code, 4, (some .int), pm_c57, 1)
/-- 58: PlatformDoors.twin(II)I -/
def pm_c58 : pm_Cd := [
  [(0, .aload_n 0, 1, []), (1, .iload_n 1, 2, []), (2, .iload_n 2, 3, []), (3, .invokevirtual 99, 6, [2, 0, 0, 68]), (6, .ifCond .ne 5, 9, [11]), (9, .iconst (-1), 10, []), (10, .ireturn, 11, []), (11, .aload_n 0, 12, []), (12, .iload_n 1, 13, []), (13, .invokevirtual 39, 16, [1, 0, 0, 67])],
  [(16, .getfield 103, 19, [2, 2, 4, 5]), (19, .astore_n 3, 20, []), (20, .aload_n 3, 21, []), (21, .invokevirtual 122, 24, [0, 3, 3, 15]), (24, .ifCond .eq 5, 27, [29]), (27, .iconst (-1), 28, []), (28, .ireturn, 29, []), (29, .aload_n 3, 30, []), (30, .iload_n 2, 31, []), (31, .invokevirtual 126, 34, [1, 3, 3, 18])],
  [(34, .aload_n 3, 35, []), (35, .getfield 119, 38, [1, 0, 3]), (38, .ireturn, 39, [])]]
def pm_m58 : pm_Mt := (⟨"PlatformDoors", "twin", "(II)I"⟩, prog_1_method_13_code, 4, (some .int), pm_c58, 1)
/-- 59: PlatformDoors.frame(III)I -/
def pm_c59 : pm_Cd := [
  [(0, .aload_n 0, 1, []), (1, .iload_n 1, 2, []), (2, .iload_n 2, 3, []), (3, .invokevirtual 99, 6, [2, 0, 0, 68]), (6, .ifCond .eq 23, 9, [29]), (9, .aload_n 0, 10, []), (10, .iload_n 1, 11, []), (11, .invokevirtual 39, 14, [1, 0, 0, 67]), (14, .getfield 103, 17, [2, 2, 4, 5])],
  [(17, .getfield 107, 20, [0, 2, 3]), (20, .iload_n 2, 21, []), (21, .aaload, 22, []), (22, .iload_n 3, 23, []), (23, .invokevirtual 129, 26, [1, 1, 1, 4]), (26, .goto 4, 29, [30]), (29, .iconst (-1), 30, []), (30, .ireturn, 31, [])]]
def pm_m59 : pm_Mt := (⟨"PlatformDoors", "frame", "(III)I"⟩, prog_1_method_14_code, 4, (some .int), pm_c59, 1)
/-- 60: PlatformDoors.leaf(III)I -/
def pm_c60 : pm_Cd := [
  [(0, .iload_n 1, 1, []), (1, .invokestatic 31, 4, [1, 69]), (4, .ifCond .eq 27, 7, [31]), (7, .iload_n 2, 8, []), (8, .invokestatic 73, 11, [1, 70]), (11, .ifCond .eq 20, 14, [31]), (14, .aload_n 0, 15, []), (15, .iload_n 1, 16, [])],
  [(16, .invokevirtual 39, 19, [1, 0, 0, 67]), (19, .getfield 76, 22, [0, 2, 4, 5]), (22, .iload_n 2, 23, []), (23, .aaload, 24, []), (24, .iload_n 3, 25, []), (25, .invokevirtual 135, 28, [1, 2, 2, 13]), (28, .goto 4, 31, [32]), (31, .iconst (-1), 32, [])],
  [(32, .ireturn, 33, [])]]
def pm_m60 : pm_Mt := (⟨"PlatformDoors", "leaf", "(III)I"⟩, prog_1_method_15_code, 4, (some .int), pm_c60, 1)
/-- 61: PlatformDoors.told(II)I -/
def pm_c61 : pm_Cd := [
  [(0, .iload_n 1, 1, []), (1, .invokestatic 31, 4, [1, 69]), (4, .ifCond .eq 15, 7, [19]), (7, .aload_n 0, 8, []), (8, .iload_n 1, 9, []), (9, .invokevirtual 39, 12, [1, 0, 0, 67]), (12, .iload_n 2, 13, []), (13, .invokevirtual 136, 16, [1, 7, 4, 30, 5, 30])],
  [(16, .goto 4, 19, [20]), (19, .iconst (-1), 20, []), (20, .ireturn, 21, [])]]
def pm_m61 : pm_Mt := (⟨"PlatformDoors", "told", "(II)I"⟩, prog_1_method_16_code, 3, (some .int), pm_c61, 1)
/-- 62: PlatformDoors.mayGo()Z -/
def pm_c62 : pm_Cd := [
  [(0, .aload_n 0, 1, []), (1, .getfield 15, 4, [0, 2, 0]), (4, .invokevirtual 137, 7, [0, 5, 5, 26]), (7, .ifCond .eq 42, 10, [49]), (10, .aload_n 0, 11, []), (11, .getfield 15, 14, [0, 2, 0]), (14, .getfield 140, 17, [1, 2, 5])],
  [(17, .getfield 144, 20, [4, 1, 1]), (20, .ifCond .eq 29, 23, [49]), (23, .aload_n 0, 24, []), (24, .getfield 15, 27, [0, 2, 0]), (27, .getfield 147, 30, [5, 0, 5]), (30, .ifCond .ne 19, 33, [49])],
  [(33, .aload_n 0, 34, []), (34, .getfield 15, 37, [0, 2, 0]), (37, .invokevirtual 150, 40, [0, 5, 5, 28]), (40, .bipush 8, 42, []), (42, .if_icmp .ne 7, 45, [49]), (45, .iconst 1, 46, []), (46, .goto 4, 49, [50])],
  [(49, .iconst 0, 50, []), (50, .ireturn, 51, [])]]
def pm_m62 : pm_Mt := (⟨"PlatformDoors", "mayGo", "()Z"⟩, prog_1_method_17_code, 1, (some .boolean), pm_c62, 2)
/-- 63: PlatformDoors.breaches()I -/
def pm_c63 : pm_Cd := [
  [(0, .aload_n 0, 1, []), (1, .getfield 154, 4, [3, 0, 0]), (4, .ireturn, 5, [])]]
def pm_m63 : pm_Mt := (⟨"PlatformDoors", "breaches", "()I"⟩, prog_1_method_18_code, 1, (some .int), pm_c63, 1)
/-- 64: PlatformDoors.restart()V -/
def pm_c64 : pm_Cd := [
  [(0, .aload_n 0, 1, []), (1, .getfield 15, 4, [0, 2, 0]), (4, .invokevirtual 157, 7, [0, 5, 5, 32]), (7, .aload_n 0, 8, []), (8, .getfield 24, 11, [1, 2, 0]), (11, .invokevirtual 160, 14, [0, 4, 4, 20]), (14, .aload_n 0, 15, []), (15, .ldc 163, 17, [1000000, 1])],
  [(17, .putfield 164, 20, [2, 0, 0, 0]), (20, .aload_n 0, 21, []), (21, .iconst 0, 22, []), (22, .putfield 154, 25, [3, 0, 0, 0]), (25, .return_, 26, [])]]
def pm_m64 : pm_Mt := (⟨"PlatformDoors", "restart", "()V"⟩, prog_1_method_19_code, 1, none, pm_c64, 0)
/-- 65: PlatformDoors.watchTrain()V -/
def pm_c65 : pm_Cd := [
  [(0, .aload_n 0, 1, []), (1, .getfield 15, 4, [0, 2, 0]), (4, .invokevirtual 167, 7, [0, 5, 5, 39]), (7, .ifCond .eq 14, 10, [21]), (10, .aload_n 0, 11, []), (11, .aload_n 0, 12, []), (12, .getfield 24, 15, [1, 2, 0]), (15, .getfield 170, 18, [4, 0, 4])],
  [(18, .putfield 164, 21, [2, 0, 0, 0]), (21, .return_, 22, [])]]
def pm_m65 : pm_Mt := (⟨"PlatformDoors", "watchTrain", "()V"⟩, prog_1_method_20_code, 1, none, pm_c65, 0)
/-- 66: PlatformDoors.watchPlatform()V -/
def pm_c66 : pm_Cd := [
  [(0, .aload_n 0, 1, []), (1, .getfield 24, 4, [1, 2, 0]), (4, .getfield 171, 7, [7, 0, 4]), (7, .aload_n 0, 8, []), (8, .getfield 24, 11, [1, 2, 0]), (11, .getfield 170, 14, [4, 0, 4]), (14, .if_icmp .ne 30, 17, [44])],
  [(17, .aload_n 0, 18, []), (18, .getfield 164, 21, [2, 0, 0]), (21, .aload_n 0, 22, []), (22, .getfield 24, 25, [1, 2, 0]), (25, .getfield 170, 28, [4, 0, 4]), (28, .bipush 25, 30, []), (30, .isub, 31, []), (31, .if_icmp .ge 13, 34, [44])],
  [(34, .aload_n 0, 35, []), (35, .dup, 36, []), (36, .getfield 154, 39, [3, 0, 0]), (39, .iconst 1, 40, []), (40, .iadd, 41, []), (41, .putfield 154, 44, [3, 0, 0, 0]), (44, .return_, 45, [])]]
def pm_m66 : pm_Mt := (⟨"PlatformDoors", "watchPlatform", "()V"⟩, prog_1_method_21_code, 1, none, pm_c66, 0)
/-- 67: PlatformDoors.sideOf(I)LPlatformDoors$Side; -/
def pm_c67 : pm_Cd := [
  [(0, .iload_n 1, 1, []), (1, .ifCond .ne 10, 4, [11]), (4, .aload_n 0, 5, []), (5, .getfield 15, 8, [0, 2, 0]), (8, .goto 7, 11, [15]), (11, .aload_n 0, 12, []), (12, .getfield 24, 15, [1, 2, 0]), (15, .areturn, 16, [])]]
def pm_m67 : pm_Mt := (⟨"PlatformDoors", "sideOf", "(I)LPlatformDoors$Side;"⟩, prog_1_method_22_code, 2, (some (.object "PlatformDoors$Side")), pm_c67, 3)
/-- 68: PlatformDoors.isUnderWay(II)Z -/
def pm_c68 : pm_Cd := [
  [(0, .iload_n 1, 1, []), (1, .invokestatic 31, 4, [1, 69]), (4, .ifCond .eq 28, 7, [32]), (7, .iload_n 2, 8, []), (8, .iconst 0, 9, []), (9, .aload_n 0, 10, []), (10, .iload_n 1, 11, []), (11, .invokevirtual 39, 14, [1, 0, 0, 67]), (14, .getfield 103, 17, [2, 2, 4, 5])],
  [(17, .getfield 119, 20, [1, 0, 3]), (20, .iconst 1, 21, []), (21, .isub, 22, []), (22, .invokestatic 35, 25, [3, 71]), (25, .ifCond .eq 7, 28, [32]), (28, .iconst 1, 29, []), (29, .goto 4, 32, [33])],
  [(32, .iconst 0, 33, []), (33, .ireturn, 34, [])]]
def pm_m68 : pm_Mt := (⟨"PlatformDoors", "isUnderWay", "(II)Z"⟩, prog_1_method_23_code, 3, (some .boolean), pm_c68, 2)
/-- 69: PlatformDoors.isSide(I)Z -/
def pm_c69 : pm_Cd := [
  [(0, .iload_n 0, 1, []), (1, .iconst 0, 2, []), (2, .iconst 1, 3, []), (3, .invokestatic 35, 6, [3, 71]), (6, .ireturn, 7, [])]]
def pm_m69 : pm_Mt := (⟨"PlatformDoors", "isSide", "(I)Z"⟩, prog_1_method_24_code, 1, (some .boolean), pm_c69, 2)
/-- 70: PlatformDoors.isLeaf(I)Z -/
def pm_c70 : pm_Cd := [
  [(0, .iload_n 0, 1, []), (1, .iconst 0, 2, []), (2, .bipush 7, 4, []), (4, .invokestatic 35, 7, [3, 71]), (7, .ireturn, 8, [])]]
def pm_m70 : pm_Mt := (⟨"PlatformDoors", "isLeaf", "(I)Z"⟩, prog_1_method_25_code, 1, (some .boolean), pm_c70, 2)
/-- 71: PlatformDoors.isWithin(III)Z -/
def pm_c71 : pm_Cd := [
  [(0, .iload_n 0, 1, []), (1, .iload_n 1, 2, []), (2, .if_icmp .lt 12, 5, [14]), (5, .iload_n 0, 6, []), (6, .iload_n 2, 7, []), (7, .if_icmp .gt 7, 10, [14]), (10, .iconst 1, 11, []), (11, .goto 4, 14, [15]), (14, .iconst 0, 15, []), (15, .ireturn, 16, [])]]
def pm_m71 : pm_Mt := (⟨"PlatformDoors", "isWithin", "(III)Z"⟩, prog_1_method_26_code, 3, (some .boolean), pm_c71, 2)
/-- 72: PlatformDoors.asNumber(Z)I -/
def pm_c72 : pm_Cd := [
  [(0, .iload_n 0, 1, []), (1, .ifCond .eq 7, 4, [8]), (4, .iconst 1, 5, []), (5, .goto 4, 8, [9]), (8, .iconst 0, 9, []), (9, .ireturn, 10, [])]]
def pm_m72 : pm_Mt := (⟨"PlatformDoors", "asNumber", "(Z)I"⟩, prog_1_method_27_code, 1, (some .int), pm_c72, 1)
/-- 73: PlatformDoorsModel.<init>()V -/
def pm_c73 : pm_Cd := [
  [(0, .aload_n 0, 1, []), (1, .invokespecial 1, 4, []), (4, .aload_n 0, 5, []), (5, .iconst 2, 6, []), (6, .newarray .int, 8, [0]), (8, .putfield 7, 11, [0, 2, 0, 6]), (11, .aload_n 0, 12, []), (12, .iconst 2, 13, []), (13, .newarray .int, 15, [0]), (15, .putfield 13, 18, [1, 2, 0, 6])],
  [(18, .aload_n 0, 19, []), (19, .iconst 2, 20, []), (20, .newarray .int, 22, [0]), (22, .putfield 16, 25, [2, 2, 0, 6]), (25, .aload_n 0, 26, []), (26, .iconst 2, 27, []), (27, .newarray .int, 29, [0]), (29, .putfield 19, 32, [3, 2, 0, 6])],
  [(32, .aload_n 0, 33, []), (33, .iconst 2, 34, []), (34, .newarray .boolean, 36, [1]), (36, .putfield 22, 39, [4, 2, 0, 6]), (39, .aload_n 0, 40, []), (40, .bipush 12, 42, []), (42, .newarray .int, 44, [0]), (44, .putfield 26, 47, [5, 2, 0, 6]), (47, .aload_n 0, 48, [])],
  [(48, .iconst 2, 49, []), (49, .newarray .int, 51, [0]), (51, .putfield 29, 54, [6, 2, 0, 6]), (54, .aload_n 0, 55, []), (55, .sipush 144, 58, []), (58, .newarray .int, 60, [0]), (60, .putfield 32, 63, [7, 2, 0, 6]), (63, .aload_n 0, 64, [])],
  [(64, .bipush 16, 66, []), (66, .newarray .int, 68, [0]), (68, .putfield 35, 71, [8, 2, 0, 6]), (71, .aload_n 0, 72, []), (72, .bipush 16, 74, []), (74, .newarray .boolean, 76, [1]), (76, .putfield 38, 79, [9, 2, 0, 6]), (79, .aload_n 0, 80, [])],
  [(80, .bipush 16, 82, []), (82, .newarray .boolean, 84, [1]), (84, .putfield 41, 87, [10, 2, 0, 6]), (87, .aload_n 0, 88, []), (88, .bipush 16, 90, []), (90, .newarray .boolean, 92, [1]), (92, .putfield 44, 95, [11, 2, 0, 6]), (95, .aload_n 0, 96, [])],
  [(96, .bipush 16, 98, []), (98, .newarray .boolean, 100, [1]), (100, .putfield 47, 103, [12, 2, 0, 6]), (103, .aload_n 0, 104, []), (104, .bipush 16, 106, []), (106, .newarray .int, 108, [0]), (108, .putfield 50, 111, [13, 2, 0, 6]), (111, .aload_n 0, 112, [])],
  [(112, .bipush 16, 114, []), (114, .newarray .int, 116, [0]), (116, .putfield 53, 119, [14, 2, 0, 6]), (119, .aload_n 0, 120, []), (120, .bipush 16, 122, []), (122, .newarray .int, 124, [0]), (124, .putfield 56, 127, [15, 2, 0, 6]), (127, .aload_n 0, 128, [])],
  [(128, .bipush 32, 130, []), (130, .newarray .int, 132, [0]), (132, .putfield 59, 135, [16, 2, 0, 6]), (135, .aload_n 0, 136, []), (136, .invokevirtual 62, 139, [0, 6, 6, 74]), (139, .return_, 140, [])]]
def pm_m73 : pm_Mt := (⟨"PlatformDoorsModel", "<init>", "()V"⟩, prog_9_method_1_code, 1, none, pm_c73, 0)
/-- 74: PlatformDoorsModel.begin()V -/
def pm_c74 : pm_Cd := [
  [(0, .iconst 0, 1, []), (1, .istore_n 1, 2, []), (2, .iload_n 1, 3, []), (3, .iconst 2, 4, []), (4, .if_icmp .ge 51, 7, [55]), (7, .aload_n 0, 8, []), (8, .getfield 7, 11, [0, 2, 6]), (11, .iload_n 1, 12, []), (12, .iconst 0, 13, []), (13, .iastore, 14, []), (14, .aload_n 0, 15, []), (15, .getfield 13, 18, [1, 2, 6])],
  [(18, .iload_n 1, 19, []), (19, .iconst 0, 20, []), (20, .iastore, 21, []), (21, .aload_n 0, 22, []), (22, .getfield 16, 25, [2, 2, 6]), (25, .iload_n 1, 26, []), (26, .iconst 0, 27, []), (27, .iastore, 28, []), (28, .aload_n 0, 29, []), (29, .getfield 19, 32, [3, 2, 6])],
  [(32, .iload_n 1, 33, []), (33, .iconst 0, 34, []), (34, .iastore, 35, []), (35, .aload_n 0, 36, []), (36, .getfield 22, 39, [4, 2, 6]), (39, .iload_n 1, 40, []), (40, .iconst 0, 41, []), (41, .bastore, 42, []), (42, .aload_n 0, 43, []), (43, .getfield 29, 46, [6, 2, 6]), (46, .iload_n 1, 47, []), (47, .iconst 0, 48, [])],
  [(48, .iastore, 49, []), (49, .iinc 1 1, 52, []), (52, .goto (-50), 55, [2]), (55, .iconst 0, 56, []), (56, .istore_n 1, 57, []), (57, .iload_n 1, 58, []), (58, .bipush 16, 60, []), (60, .if_icmp .ge 85, 63, [145]), (63, .aload_n 0, 64, [])],
  [(64, .getfield 35, 67, [8, 2, 6]), (67, .iload_n 1, 68, []), (68, .iconst 0, 69, []), (69, .iastore, 70, []), (70, .aload_n 0, 71, []), (71, .getfield 38, 74, [9, 2, 6]), (74, .iload_n 1, 75, []), (75, .iconst 0, 76, []), (76, .bastore, 77, []), (77, .aload_n 0, 78, []), (78, .getfield 41, 81, [10, 2, 6])],
  [(81, .iload_n 1, 82, []), (82, .iconst 0, 83, []), (83, .bastore, 84, []), (84, .aload_n 0, 85, []), (85, .getfield 44, 88, [11, 2, 6]), (88, .iload_n 1, 89, []), (89, .iconst 0, 90, []), (90, .bastore, 91, []), (91, .aload_n 0, 92, []), (92, .getfield 47, 95, [12, 2, 6]), (95, .iload_n 1, 96, [])],
  [(96, .iconst 0, 97, []), (97, .bastore, 98, []), (98, .aload_n 0, 99, []), (99, .getfield 50, 102, [13, 2, 6]), (102, .iload_n 1, 103, []), (103, .iconst 0, 104, []), (104, .iastore, 105, []), (105, .aload_n 0, 106, []), (106, .getfield 53, 109, [14, 2, 6]), (109, .iload_n 1, 110, []), (110, .iconst 0, 111, []), (111, .iastore, 112, [])],
  [(112, .aload_n 0, 113, []), (113, .getfield 56, 116, [15, 2, 6]), (116, .iload_n 1, 117, []), (117, .iconst 0, 118, []), (118, .iastore, 119, []), (119, .aload_n 0, 120, []), (120, .getfield 59, 123, [16, 2, 6]), (123, .iconst 2, 124, []), (124, .iload_n 1, 125, []), (125, .imul, 126, []), (126, .iconst 0, 127, []), (127, .iastore, 128, [])],
  [(128, .aload_n 0, 129, []), (129, .getfield 59, 132, [16, 2, 6]), (132, .iconst 2, 133, []), (133, .iload_n 1, 134, []), (134, .imul, 135, []), (135, .iconst 1, 136, []), (136, .iadd, 137, []), (137, .iconst 0, 138, []), (138, .iastore, 139, []), (139, .iinc 1 1, 142, []), (142, .goto (-85), 145, [57])],
  [(145, .aload_n 0, 146, []), (146, .iconst 0, 147, []), (147, .putfield 65, 150, [17, 0, 0, 6]), (150, .aload_n 0, 151, []), (151, .iconst 1, 152, []), (152, .putfield 69, 155, [18, 0, 0, 6]), (155, .aload_n 0, 156, []), (156, .iconst 0, 157, []), (157, .putfield 72, 160, [19, 0, 0, 6])],
  [(160, .aload_n 0, 161, []), (161, .iconst 0, 162, []), (162, .putfield 75, 165, [20, 0, 0, 6]), (165, .aload_n 0, 166, []), (166, .iconst 0, 167, []), (167, .putfield 78, 170, [21, 1, 0, 6]), (170, .aload_n 0, 171, []), (171, .sipush (-1000), 174, []), (174, .putfield 82, 177, [22, 0, 0, 6])],
  [(177, .aload_n 0, 178, []), (178, .iconst 0, 179, []), (179, .putfield 85, 182, [23, 0, 0, 6]), (182, .return_, 183, [])]]
def pm_m74 : pm_Mt := (⟨"PlatformDoorsModel", "begin", "()V"⟩, prog_9_method_2_code, 2, none, pm_c74, 0)
/-- 75: PlatformDoorsModel.age(I)I -/
def pm_c75 : pm_Cd := [
  [(0, .aload_n 0, 1, []), (1, .getfield 22, 4, [4, 2, 6]), (4, .iload_n 1, 5, []), (5, .baload, 6, []), (6, .ifCond .eq 17, 9, [23]), (9, .aload_n 0, 10, []), (10, .getfield 26, 13, [5, 2, 6]), (13, .bipush 6, 15, []), (15, .iload_n 1, 16, [])],
  [(16, .imul, 17, []), (17, .iconst 1, 18, []), (18, .iadd, 19, []), (19, .iaload, 20, []), (20, .ifCond .ne 8, 23, [28]), (23, .bipush (-2), 25, []), (25, .goto 23, 28, [48]), (28, .aload_n 0, 29, []), (29, .getfield 7, 32, [0, 2, 6])],
  [(32, .iload_n 1, 33, []), (33, .iaload, 34, []), (34, .iconst 5, 35, []), (35, .aload_n 0, 36, []), (36, .getfield 26, 39, [5, 2, 6]), (39, .bipush 6, 41, []), (41, .iload_n 1, 42, []), (42, .imul, 43, []), (43, .iconst 1, 44, []), (44, .iadd, 45, []), (45, .iaload, 46, []), (46, .imul, 47, []), (47, .isub, 48, [])],
  [(48, .ireturn, 49, [])]]
def pm_m75 : pm_Mt := (⟨"PlatformDoorsModel", "age", "(I)I"⟩, prog_9_method_3_code, 2, (some .int), pm_c75, 1)
/-- 76: PlatformDoorsModel.isFresh(I)Z -/
def pm_c76 : pm_Cd := [
  [(0, .aload_n 0, 1, []), (1, .iload_n 1, 2, []), (2, .invokevirtual 88, 5, [1, 6, 6, 75]), (5, .istore_n 2, 6, []), (6, .iload_n 2, 7, []), (7, .bipush (-2), 9, []), (9, .if_icmp .eq 13, 12, [22]), (12, .iload_n 2, 13, []), (13, .bipush 25, 15, []), (15, .if_icmp .gt 7, 18, [22])],
  [(18, .iconst 1, 19, []), (19, .goto 4, 22, [23]), (22, .iconst 0, 23, []), (23, .ireturn, 24, [])]]
def pm_m76 : pm_Mt := (⟨"PlatformDoorsModel", "isFresh", "(I)Z"⟩, prog_9_method_4_code, 3, (some .boolean), pm_c76, 2)
/-- 77: PlatformDoorsModel.isStale(I)Z -/
def pm_c77 : pm_Cd := [
  [(0, .aload_n 0, 1, []), (1, .iload_n 1, 2, []), (2, .invokevirtual 88, 5, [1, 6, 6, 75]), (5, .istore_n 2, 6, []), (6, .iload_n 2, 7, []), (7, .bipush (-2), 9, []), (9, .if_icmp .eq 9, 12, [18]), (12, .iload_n 2, 13, []), (13, .bipush 75, 15, []), (15, .if_icmp .le 7, 18, [22])],
  [(18, .iconst 1, 19, []), (19, .goto 4, 22, [23]), (22, .iconst 0, 23, []), (23, .ireturn, 24, [])]]
def pm_m77 : pm_Mt := (⟨"PlatformDoorsModel", "isStale", "(I)Z"⟩, prog_9_method_5_code, 3, (some .boolean), pm_c77, 2)
/-- 78: PlatformDoorsModel.isReady()Z -/
def pm_c78 : pm_Cd := [
  [(0, .aload_n 0, 1, []), (1, .getfield 65, 4, [17, 0, 6]), (4, .aload_n 0, 5, []), (5, .getfield 72, 8, [19, 0, 6]), (8, .iadd, 9, []), (9, .istore_n 1, 10, []), (10, .aload_n 0, 11, []), (11, .getfield 75, 14, [20, 0, 6]), (14, .bipush 20, 16, [])],
  [(16, .if_icmp .lt 21, 19, [37]), (19, .iload_n 1, 20, []), (20, .sipush (-250), 23, []), (23, .if_icmp .lt 14, 26, [37]), (26, .iload_n 1, 27, []), (27, .sipush 250, 30, []), (30, .if_icmp .gt 7, 33, [37])],
  [(33, .iconst 1, 34, []), (34, .goto 4, 37, [38]), (37, .iconst 0, 38, []), (38, .ireturn, 39, [])]]
def pm_m78 : pm_Mt := (⟨"PlatformDoorsModel", "isReady", "()Z"⟩, prog_9_method_6_code, 2, (some .boolean), pm_c78, 2)
/-- 79: PlatformDoorsModel.isLocked(I)Z -/
def pm_c79 : pm_Cd := [
  [(0, .aload_n 0, 1, []), (1, .getfield 35, 4, [8, 2, 6]), (4, .iload_n 1, 5, []), (5, .iaload, 6, []), (6, .ifCond .ne 25, 9, [31]), (9, .aload_n 0, 10, []), (10, .getfield 44, 13, [11, 2, 6]), (13, .iload_n 1, 14, []), (14, .baload, 15, []), (15, .ifCond .ne 16, 18, [31])],
  [(18, .aload_n 0, 19, []), (19, .getfield 41, 22, [10, 2, 6]), (22, .iload_n 1, 23, []), (23, .baload, 24, []), (24, .ifCond .ne 7, 27, [31]), (27, .iconst 1, 28, []), (28, .goto 4, 31, [32]), (31, .iconst 0, 32, [])],
  [(32, .ireturn, 33, [])]]
def pm_m79 : pm_Mt := (⟨"PlatformDoorsModel", "isLocked", "(I)Z"⟩, prog_9_method_7_code, 2, (some .boolean), pm_c79, 2)
/-- 80: PlatformDoorsModel.says(IZ)Z -/
def pm_c80 : pm_Cd := [
  [(0, .aload_n 0, 1, []), (1, .getfield 59, 4, [16, 2, 6]), (4, .iload_n 1, 5, []), (5, .iaload, 6, []), (6, .iconst 1, 7, []), (7, .if_icmp .eq 16, 10, [23]), (10, .aload_n 0, 11, []), (11, .getfield 59, 14, [16, 2, 6]), (14, .iload_n 1, 15, []), (15, .iaload, 16, [])],
  [(16, .ifCond .ne 11, 19, [27]), (19, .iload_n 2, 20, []), (20, .ifCond .eq 7, 23, [27]), (23, .iconst 1, 24, []), (24, .goto 4, 27, [28]), (27, .iconst 0, 28, []), (28, .ireturn, 29, [])]]
def pm_m80 : pm_Mt := (⟨"PlatformDoorsModel", "says", "(IZ)Z"⟩, prog_9_method_8_code, 3, (some .boolean), pm_c80, 2)
/-- 81: PlatformDoorsModel.isTold(I)Z -/
def pm_c81 : pm_Cd := [
  [(0, .aload_n 0, 1, []), (1, .iconst 2, 2, []), (2, .iload_n 1, 3, []), (3, .imul, 4, []), (4, .aload_n 0, 5, []), (5, .iload_n 1, 6, []), (6, .invokevirtual 92, 9, [1, 6, 6, 79]), (9, .invokevirtual 96, 12, [2, 6, 6, 80]), (12, .ifCond .eq 24, 15, [36]), (15, .aload_n 0, 16, [])],
  [(16, .iconst 2, 17, []), (17, .iload_n 1, 18, []), (18, .imul, 19, []), (19, .iconst 1, 20, []), (20, .iadd, 21, []), (21, .aload_n 0, 22, []), (22, .iload_n 1, 23, []), (23, .invokevirtual 92, 26, [1, 6, 6, 79]), (26, .invokevirtual 96, 29, [2, 6, 6, 80]), (29, .ifCond .eq 7, 32, [36])],
  [(32, .iconst 1, 33, []), (33, .goto 4, 36, [37]), (36, .iconst 0, 37, []), (37, .ireturn, 38, [])]]
def pm_m81 : pm_Mt := (⟨"PlatformDoorsModel", "isTold", "(I)Z"⟩, prog_9_method_9_code, 2, (some .boolean), pm_c81, 2)
/-- 82: PlatformDoorsModel.toldLeaves(I)I -/
def pm_c82 : pm_Cd := [
  [(0, .iconst 0, 1, []), (1, .istore_n 2, 2, []), (2, .bipush 8, 4, []), (4, .iload_n 1, 5, []), (5, .imul, 6, []), (6, .istore_n 3, 7, []), (7, .iload_n 3, 8, []), (8, .bipush 8, 10, []), (10, .iload_n 1, 11, []), (11, .imul, 12, []), (12, .bipush 8, 14, []), (14, .iadd, 15, []), (15, .if_icmp .ge 25, 18, [40])],
  [(18, .iload_n 2, 19, []), (19, .aload_n 0, 20, []), (20, .iload_n 3, 21, []), (21, .invokevirtual 100, 24, [1, 6, 6, 81]), (24, .ifCond .eq 7, 27, [31]), (27, .iconst 1, 28, []), (28, .goto 4, 31, [32]), (31, .iconst 0, 32, [])],
  [(32, .iadd, 33, []), (33, .istore_n 2, 34, []), (34, .iinc 3 1, 37, []), (37, .goto (-30), 40, [7]), (40, .iload_n 2, 41, []), (41, .ireturn, 42, [])]]
def pm_m82 : pm_Mt := (⟨"PlatformDoorsModel", "toldLeaves", "(I)I"⟩, prog_9_method_10_code, 4, (some .int), pm_c82, 1)
/-- 83: PlatformDoorsModel.isGood(I)Z -/
def pm_c83 : pm_Cd := [
  [(0, .iload_n 1, 1, []), (1, .ifCond .ne 10, 4, [11]), (4, .aload_n 0, 5, []), (5, .invokevirtual 103, 8, [0, 6, 6, 78]), (8, .goto 18, 11, [26]), (11, .aload_n 0, 12, []), (12, .iconst 1, 13, []), (13, .invokevirtual 107, 16, [1, 6, 6, 82])],
  [(16, .bipush 8, 18, []), (18, .if_icmp .ne 7, 21, [25]), (21, .iconst 1, 22, []), (22, .goto 4, 25, [26]), (25, .iconst 0, 26, []), (26, .ireturn, 27, [])]]
def pm_m83 : pm_Mt := (⟨"PlatformDoorsModel", "isGood", "(I)Z"⟩, prog_9_method_11_code, 2, (some .boolean), pm_c83, 2)
/-- 84: PlatformDoorsModel.isolatedBits(I)I -/
def pm_c84 : pm_Cd := [
  [(0, .iconst 0, 1, []), (1, .istore_n 2, 2, []), (2, .iconst 0, 3, []), (3, .istore_n 3, 4, []), (4, .iload_n 3, 5, []), (5, .bipush 8, 7, []), (7, .if_icmp .ge 33, 10, [40]), (10, .iload_n 2, 11, []), (11, .aload_n 0, 12, []), (12, .getfield 38, 15, [9, 2, 6]), (15, .bipush 8, 17, [])],
  [(17, .iload_n 1, 18, []), (18, .imul, 19, []), (19, .iload_n 3, 20, []), (20, .iadd, 21, []), (21, .baload, 22, []), (22, .ifCond .eq 9, 25, [31]), (25, .iconst 1, 26, []), (26, .iload_n 3, 27, []), (27, .ishl, 28, []), (28, .goto 4, 31, [32]), (31, .iconst 0, 32, [])],
  [(32, .iadd, 33, []), (33, .istore_n 2, 34, []), (34, .iinc 3 1, 37, []), (37, .goto (-33), 40, [4]), (40, .iload_n 2, 41, []), (41, .ireturn, 42, [])]]
def pm_m84 : pm_Mt := (⟨"PlatformDoorsModel", "isolatedBits", "(I)I"⟩, prog_9_method_12_code, 4, (some .int), pm_c84, 1)
/-- 85: PlatformDoorsModel.mayOpen(I)Z -/
def pm_c85 : pm_Cd := [
  [(0, .aload_n 0, 1, []), (1, .iload_n 1, 2, []), (2, .invokevirtual 110, 5, [1, 6, 6, 76]), (5, .istore_n 2, 6, []), (6, .iload_n 1, 7, []), (7, .ifCond .ne 37, 10, [44]), (10, .aload_n 0, 11, []), (11, .getfield 78, 14, [21, 1, 6]), (14, .ifCond .eq 28, 17, [42])],
  [(17, .aload_n 0, 18, []), (18, .invokevirtual 103, 21, [0, 6, 6, 78]), (21, .ifCond .eq 21, 24, [42]), (24, .iload_n 2, 25, []), (25, .ifCond .eq 17, 28, [42]), (28, .aload_n 0, 29, []), (29, .getfield 26, 32, [5, 2, 6])],
  [(32, .iconst 2, 33, []), (33, .iaload, 34, []), (34, .iconst 1, 35, []), (35, .if_icmp .ne 7, 38, [42]), (38, .iconst 1, 39, []), (39, .goto 4, 42, [43]), (42, .iconst 0, 43, []), (43, .ireturn, 44, []), (44, .iload_n 2, 45, []), (45, .ifCond .eq 29, 48, [74])],
  [(48, .aload_n 0, 49, []), (49, .getfield 26, 52, [5, 2, 6]), (52, .bipush 10, 54, []), (54, .iaload, 55, []), (55, .iconst 1, 56, []), (56, .if_icmp .ne 18, 59, [74]), (59, .aload_n 0, 60, []), (60, .getfield 26, 63, [5, 2, 6]), (63, .bipush 11, 65, [])],
  [(65, .iaload, 66, []), (66, .iconst 1, 67, []), (67, .if_icmp .ne 7, 70, [74]), (70, .iconst 1, 71, []), (71, .goto 4, 74, [75]), (74, .iconst 0, 75, []), (75, .ireturn, 76, [])]]
def pm_m85 : pm_Mt := (⟨"PlatformDoorsModel", "mayOpen", "(I)Z"⟩, prog_9_method_13_code, 3, (some .boolean), pm_c85, 2)
/-- 86: PlatformDoorsModel.mustClose(I)Z -/
def pm_c86 : pm_Cd := [
  [(0, .aload_n 0, 1, []), (1, .iload_n 1, 2, []), (2, .invokevirtual 113, 5, [1, 6, 6, 77]), (5, .ifCond .eq 5, 8, [10]), (8, .iconst 1, 9, []), (9, .ireturn, 10, []), (10, .iload_n 1, 11, []), (11, .ifCond .ne 25, 14, [36]), (14, .aload_n 0, 15, []), (15, .getfield 78, 18, [21, 1, 6])],
  [(18, .ifCond .eq 10, 21, [28]), (21, .aload_n 0, 22, []), (22, .invokevirtual 103, 25, [0, 6, 6, 78]), (25, .ifCond .ne 7, 28, [32]), (28, .iconst 1, 29, []), (29, .goto 32, 32, [61])],
  [(32, .iconst 0, 33, []), (33, .goto 28, 36, [61]), (36, .aload_n 0, 37, []), (37, .getfield 26, 40, [5, 2, 6]), (40, .bipush 10, 42, []), (42, .iaload, 43, []), (43, .ifCond .eq 13, 46, [56]), (46, .aload_n 0, 47, []), (47, .getfield 26, 50, [5, 2, 6])],
  [(50, .bipush 11, 52, []), (52, .iaload, 53, []), (53, .ifCond .ne 7, 56, [60]), (56, .iconst 1, 57, []), (57, .goto 4, 60, [61]), (60, .iconst 0, 61, []), (61, .ireturn, 62, [])]]
def pm_m86 : pm_Mt := (⟨"PlatformDoorsModel", "mustClose", "(I)Z"⟩, prog_9_method_14_code, 2, (some .boolean), pm_c86, 2)
/-- 87: PlatformDoorsModel.changeState(I)V -/
def pm_c87 : pm_Cd := [
  [(0, .aload_n 0, 1, []), (1, .getfield 13, 4, [1, 2, 6]), (4, .iload_n 1, 5, []), (5, .iaload, 6, []), (6, .ifCond .ne 31, 9, [37]), (9, .aload_n 0, 10, []), (10, .iload_n 1, 11, []), (11, .invokevirtual 116, 14, [1, 6, 6, 85]), (14, .ifCond .eq 89, 17, [103])],
  [(17, .aload_n 0, 18, []), (18, .getfield 13, 21, [1, 2, 6]), (21, .iload_n 1, 22, []), (22, .iconst 1, 23, []), (23, .iastore, 24, []), (24, .aload_n 0, 25, []), (25, .getfield 19, 28, [3, 2, 6]), (28, .iload_n 1, 29, []), (29, .dup2, 30, []), (30, .iaload, 31, []), (31, .iconst 1, 32, [])],
  [(32, .iadd, 33, []), (33, .iastore, 34, []), (34, .goto 69, 37, [103]), (37, .aload_n 0, 38, []), (38, .getfield 13, 41, [1, 2, 6]), (41, .iload_n 1, 42, []), (42, .iaload, 43, []), (43, .iconst 1, 44, []), (44, .if_icmp .ne 33, 47, [77]), (47, .aload_n 0, 48, [])],
  [(48, .iload_n 1, 49, []), (49, .invokevirtual 119, 52, [1, 6, 6, 86]), (52, .ifCond .eq 51, 55, [103]), (55, .aload_n 0, 56, []), (56, .getfield 13, 59, [1, 2, 6]), (59, .iload_n 1, 60, []), (60, .iconst 2, 61, []), (61, .iastore, 62, []), (62, .aload_n 0, 63, []), (63, .getfield 16, 66, [2, 2, 6])],
  [(66, .iload_n 1, 67, []), (67, .aload_n 0, 68, []), (68, .getfield 7, 71, [0, 2, 6]), (71, .iload_n 1, 72, []), (72, .iaload, 73, []), (73, .iastore, 74, []), (74, .goto 29, 77, [103]), (77, .aload_n 0, 78, []), (78, .getfield 7, 81, [0, 2, 6])],
  [(81, .iload_n 1, 82, []), (82, .iaload, 83, []), (83, .aload_n 0, 84, []), (84, .getfield 16, 87, [2, 2, 6]), (87, .iload_n 1, 88, []), (88, .iaload, 89, []), (89, .isub, 90, []), (90, .sipush 150, 93, []), (93, .if_icmp .ne 10, 96, [103])],
  [(96, .aload_n 0, 97, []), (97, .getfield 13, 100, [1, 2, 6]), (100, .iload_n 1, 101, []), (101, .iconst 0, 102, []), (102, .iastore, 103, []), (103, .return_, 104, [])]]
def pm_m87 : pm_Mt := (⟨"PlatformDoorsModel", "changeState", "(I)V"⟩, prog_9_method_15_code, 2, none, pm_c87, 0)
/-- 88: PlatformDoorsModel.moveLeaf(II)V -/
def pm_c88 : pm_Cd := [
  [(0, .bipush 8, 2, []), (2, .iload_n 1, 3, []), (3, .imul, 4, []), (4, .iload_n 2, 5, []), (5, .iadd, 6, []), (6, .istore_n 3, 7, []), (7, .aload_n 0, 8, []), (8, .getfield 22, 11, [4, 2, 6]), (11, .iload_n 1, 12, []), (12, .baload, 13, []), (13, .ifCond .eq 26, 16, [39])],
  [(16, .aload_n 0, 17, []), (17, .getfield 26, 20, [5, 2, 6]), (20, .bipush 6, 22, []), (22, .iload_n 1, 23, []), (23, .imul, 24, []), (24, .iconst 3, 25, []), (25, .iadd, 26, []), (26, .iaload, 27, []), (27, .iload_n 2, 28, []), (28, .ishr, 29, []), (29, .iconst 1, 30, []), (30, .iand, 31, []), (31, .iconst 1, 32, [])],
  [(32, .if_icmp .ne 7, 35, [39]), (35, .iconst 1, 36, []), (36, .goto 4, 39, [40]), (39, .iconst 0, 40, []), (40, .istore 4, 42, []), (42, .aload_n 0, 43, []), (43, .getfield 44, 46, [11, 2, 6]), (46, .iload_n 3, 47, []), (47, .aload_n 0, 48, [])],
  [(48, .getfield 13, 51, [1, 2, 6]), (51, .iload_n 1, 52, []), (52, .iaload, 53, []), (53, .ifCond .eq 17, 56, [70]), (56, .aload_n 0, 57, []), (57, .getfield 38, 60, [9, 2, 6]), (60, .iload_n 3, 61, []), (61, .baload, 62, []), (62, .ifCond .ne 8, 65, [70])],
  [(65, .iload 4, 67, []), (67, .ifCond .eq 12, 70, [79]), (70, .aload_n 0, 71, []), (71, .getfield 56, 74, [15, 2, 6]), (74, .iload_n 3, 75, []), (75, .iaload, 76, []), (76, .ifCond .le 7, 79, [83]), (79, .iconst 1, 80, [])],
  [(80, .goto 4, 83, [84]), (83, .iconst 0, 84, []), (84, .bastore, 85, []), (85, .iconst 0, 86, []), (86, .istore 5, 88, []), (88, .aload_n 0, 89, []), (89, .getfield 41, 92, [10, 2, 6]), (92, .iload_n 3, 93, []), (93, .baload, 94, []), (94, .ifCond .eq 17, 97, [111])],
  [(97, .aload_n 0, 98, []), (98, .getfield 35, 101, [8, 2, 6]), (101, .iload_n 3, 102, []), (102, .dup2, 103, []), (103, .iaload, 104, []), (104, .bipush 10, 106, []), (106, .iadd, 107, []), (107, .iastore, 108, []), (108, .goto 146, 111, [254]), (111, .aload_n 0, 112, [])],
  [(112, .getfield 44, 115, [11, 2, 6]), (115, .iload_n 3, 116, []), (116, .baload, 117, []), (117, .ifCond .eq 16, 120, [133]), (120, .aload_n 0, 121, []), (121, .getfield 35, 124, [8, 2, 6]), (124, .iload_n 3, 125, []), (125, .dup2, 126, []), (126, .iaload, 127, []), (127, .iconst 5, 128, [])],
  [(128, .iadd, 129, []), (129, .iastore, 130, []), (130, .goto 124, 133, [254]), (133, .aload_n 0, 134, []), (134, .getfield 35, 137, [8, 2, 6]), (137, .iload_n 3, 138, []), (138, .iaload, 139, []), (139, .ifCond .le 87, 142, [226]), (142, .aload_n 0, 143, []), (143, .getfield 50, 146, [13, 2, 6])],
  [(146, .iload_n 3, 147, []), (147, .iaload, 148, []), (148, .ifCond .le 78, 151, [226]), (151, .aload_n 0, 152, []), (152, .getfield 35, 155, [8, 2, 6]), (155, .iload_n 3, 156, []), (156, .iaload, 157, []), (157, .bipush 40, 159, []), (159, .if_icmp .gt 67, 162, [226])],
  [(162, .aload_n 0, 163, []), (163, .getfield 53, 166, [14, 2, 6]), (166, .iload_n 3, 167, []), (167, .iaload, 168, []), (168, .iconst 3, 169, []), (169, .if_icmp .ge 7, 172, [176]), (172, .iconst 1, 173, []), (173, .goto 4, 176, [177])],
  [(176, .iconst 0, 177, []), (177, .istore 5, 179, []), (179, .aload_n 0, 180, []), (180, .getfield 53, 183, [14, 2, 6]), (183, .iload_n 3, 184, []), (184, .dup2, 185, []), (185, .iaload, 186, []), (186, .iload 5, 188, []), (188, .ifCond .eq 7, 191, [195]), (191, .iconst 1, 192, [])],
  [(192, .goto 4, 195, [196]), (195, .iconst 0, 196, []), (196, .iadd, 197, []), (197, .iastore, 198, []), (198, .aload_n 0, 199, []), (199, .getfield 47, 202, [12, 2, 6]), (202, .iload_n 3, 203, []), (203, .aload_n 0, 204, []), (204, .getfield 47, 207, [12, 2, 6]), (207, .iload_n 3, 208, [])],
  [(208, .baload, 209, []), (209, .ifCond .ne 8, 212, [217]), (212, .iload 5, 214, []), (214, .ifCond .ne 7, 217, [221]), (217, .iconst 1, 218, []), (218, .goto 4, 221, [222]), (221, .iconst 0, 222, []), (222, .bastore, 223, []), (223, .goto 31, 226, [254])],
  [(226, .aload_n 0, 227, []), (227, .getfield 35, 230, [8, 2, 6]), (230, .iload_n 3, 231, []), (231, .aload_n 0, 232, []), (232, .getfield 35, 235, [8, 2, 6]), (235, .iload_n 3, 236, []), (236, .iaload, 237, []), (237, .iconst 5, 238, []), (238, .if_icmp .le 14, 241, [252])],
  [(241, .aload_n 0, 242, []), (242, .getfield 35, 245, [8, 2, 6]), (245, .iload_n 3, 246, []), (246, .iaload, 247, []), (247, .iconst 5, 248, []), (248, .isub, 249, []), (249, .goto 4, 252, [253]), (252, .iconst 0, 253, []), (253, .iastore, 254, []), (254, .aload_n 0, 255, []), (255, .getfield 35, 258, [8, 2, 6])],
  [(258, .iload_n 3, 259, []), (259, .aload_n 0, 260, []), (260, .getfield 35, 263, [8, 2, 6]), (263, .iload_n 3, 264, []), (264, .iaload, 265, []), (265, .bipush 100, 267, []), (267, .if_icmp .le 8, 270, [275]), (270, .bipush 100, 272, [])],
  [(272, .goto 9, 275, [281]), (275, .aload_n 0, 276, []), (276, .getfield 35, 279, [8, 2, 6]), (279, .iload_n 3, 280, []), (280, .iaload, 281, []), (281, .iastore, 282, []), (282, .aload_n 0, 283, []), (283, .iload_n 3, 284, []), (284, .invokevirtual 92, 287, [1, 6, 6, 79]), (287, .ifCond .eq 17, 290, [304])],
  [(290, .aload_n 0, 291, []), (291, .getfield 53, 294, [14, 2, 6]), (294, .iload_n 3, 295, []), (295, .iconst 0, 296, []), (296, .iastore, 297, []), (297, .aload_n 0, 298, []), (298, .getfield 47, 301, [12, 2, 6]), (301, .iload_n 3, 302, []), (302, .iconst 0, 303, []), (303, .bastore, 304, [])],
  [(304, .aload_n 0, 305, []), (305, .getfield 50, 308, [13, 2, 6]), (308, .iload_n 3, 309, []), (309, .dup2, 310, []), (310, .iaload, 311, []), (311, .aload_n 0, 312, []), (312, .getfield 50, 315, [13, 2, 6]), (315, .iload_n 3, 316, []), (316, .iaload, 317, []), (317, .ifCond .le 7, 320, [324])],
  [(320, .iconst 1, 321, []), (321, .goto 4, 324, [325]), (324, .iconst 0, 325, []), (325, .isub, 326, []), (326, .iastore, 327, []), (327, .aload_n 0, 328, []), (328, .getfield 56, 331, [15, 2, 6]), (331, .iload_n 3, 332, []), (332, .iload 5, 334, []), (334, .ifCond .eq 8, 337, [342])],
  [(337, .bipush 40, 339, []), (339, .goto 24, 342, [363]), (342, .aload_n 0, 343, []), (343, .getfield 56, 346, [15, 2, 6]), (346, .iload_n 3, 347, []), (347, .iaload, 348, []), (348, .ifCond .le 14, 351, [362]), (351, .aload_n 0, 352, [])],
  [(352, .getfield 56, 355, [15, 2, 6]), (355, .iload_n 3, 356, []), (356, .iaload, 357, []), (357, .iconst 1, 358, []), (358, .isub, 359, []), (359, .goto 4, 362, [363]), (362, .iconst 0, 363, []), (363, .iastore, 364, []), (364, .return_, 365, [])]]
def pm_m88 : pm_Mt := (⟨"PlatformDoorsModel", "moveLeaf", "(II)V"⟩, prog_9_method_16_code, 6, none, pm_c88, 0)
/-- 89: PlatformDoorsModel.send(I)V -/
def pm_c89 : pm_Cd := [
  [(0, .iconst 1, 1, []), (1, .iload_n 1, 2, []), (2, .isub, 3, []), (3, .istore_n 2, 4, []), (4, .aload_n 0, 5, []), (5, .getfield 7, 8, [0, 2, 6]), (8, .iload_n 1, 9, []), (9, .iaload, 10, []), (10, .iconst 5, 11, []), (11, .irem, 12, []), (12, .ifCond .ne 14, 15, [26]), (15, .aload_n 0, 16, [])],
  [(16, .getfield 29, 19, [6, 2, 6]), (19, .iload_n 2, 20, []), (20, .iaload, 21, []), (21, .bipush 12, 23, []), (23, .if_icmp .ne 4, 26, [27]), (26, .return_, 27, []), (27, .bipush 72, 29, []), (29, .iload_n 2, 30, []), (30, .imul, 31, []), (31, .bipush 6, 33, [])],
  [(33, .aload_n 0, 34, []), (34, .getfield 29, 37, [6, 2, 6]), (37, .iload_n 2, 38, []), (38, .iaload, 39, []), (39, .imul, 40, []), (40, .iadd, 41, []), (41, .istore_n 3, 42, []), (42, .aload_n 0, 43, []), (43, .getfield 32, 46, [7, 2, 6]), (46, .iload_n 3, 47, []), (47, .aload_n 0, 48, [])],
  [(48, .getfield 7, 51, [0, 2, 6]), (51, .iload_n 1, 52, []), (52, .iaload, 53, []), (53, .iconst 5, 54, []), (54, .idiv, 55, []), (55, .iastore, 56, []), (56, .aload_n 0, 57, []), (57, .getfield 32, 60, [7, 2, 6]), (60, .iload_n 3, 61, []), (61, .iconst 1, 62, []), (62, .iadd, 63, []), (63, .aload_n 0, 64, [])],
  [(64, .getfield 22, 67, [4, 2, 6]), (67, .iload_n 1, 68, []), (68, .baload, 69, []), (69, .ifCond .eq 15, 72, [84]), (72, .aload_n 0, 73, []), (73, .getfield 26, 76, [5, 2, 6]), (76, .bipush 6, 78, []), (78, .iload_n 1, 79, []), (79, .imul, 80, [])],
  [(80, .iaload, 81, []), (81, .goto 4, 84, [85]), (84, .iconst 0, 85, []), (85, .iastore, 86, []), (86, .aload_n 0, 87, []), (87, .getfield 32, 90, [7, 2, 6]), (90, .iload_n 3, 91, []), (91, .iconst 2, 92, []), (92, .iadd, 93, []), (93, .aload_n 0, 94, []), (94, .getfield 13, 97, [1, 2, 6])],
  [(97, .iload_n 1, 98, []), (98, .iaload, 99, []), (99, .iastore, 100, []), (100, .aload_n 0, 101, []), (101, .getfield 32, 104, [7, 2, 6]), (104, .iload_n 3, 105, []), (105, .iconst 3, 106, []), (106, .iadd, 107, []), (107, .aload_n 0, 108, []), (108, .iload_n 1, 109, []), (109, .invokevirtual 122, 112, [1, 6, 6, 84])],
  [(112, .iastore, 113, []), (113, .aload_n 0, 114, []), (114, .getfield 32, 117, [7, 2, 6]), (117, .iload_n 3, 118, []), (118, .iconst 4, 119, []), (119, .iadd, 120, []), (120, .aload_n 0, 121, []), (121, .iload_n 1, 122, []), (122, .invokevirtual 125, 125, [1, 6, 6, 83]), (125, .ifCond .eq 7, 128, [132])],
  [(128, .iconst 1, 129, []), (129, .goto 4, 132, [133]), (132, .iconst 0, 133, []), (133, .iastore, 134, []), (134, .aload_n 0, 135, []), (135, .getfield 32, 138, [7, 2, 6]), (138, .iload_n 3, 139, []), (139, .iconst 5, 140, []), (140, .iadd, 141, []), (141, .iload_n 1, 142, []), (142, .ifCond .ne 14, 145, [156])],
  [(145, .aload_n 0, 146, []), (146, .getfield 78, 149, [21, 1, 6]), (149, .ifCond .eq 7, 152, [156]), (152, .iconst 1, 153, []), (153, .goto 4, 156, [157]), (156, .iconst 0, 157, []), (157, .iastore, 158, []), (158, .aload_n 0, 159, []), (159, .getfield 29, 162, [6, 2, 6])],
  [(162, .iload_n 2, 163, []), (163, .dup2, 164, []), (164, .iaload, 165, []), (165, .iconst 1, 166, []), (166, .iadd, 167, []), (167, .iastore, 168, []), (168, .return_, 169, [])]]
def pm_m89 : pm_Mt := (⟨"PlatformDoorsModel", "send", "(I)V"⟩, prog_9_method_17_code, 4, none, pm_c89, 0)
/-- 90: PlatformDoorsModel.stepOne(I)V -/
def pm_c90 : pm_Cd := [
  [(0, .aload_n 0, 1, []), (1, .getfield 7, 4, [0, 2, 6]), (4, .iload_n 1, 5, []), (5, .dup2, 6, []), (6, .iaload, 7, []), (7, .iconst 1, 8, []), (8, .iadd, 9, []), (9, .iastore, 10, []), (10, .iload_n 1, 11, []), (11, .ifCond .ne 41, 14, [52]), (14, .aload_n 0, 15, []), (15, .aload_n 0, 16, [])],
  [(16, .getfield 69, 19, [18, 0, 6]), (19, .ifCond .ne 29, 22, [48]), (22, .aload_n 0, 23, []), (23, .getfield 75, 26, [20, 0, 6]), (26, .sipush 1000, 29, []), (29, .if_icmp .ge 12, 32, [41])],
  [(32, .aload_n 0, 33, []), (33, .getfield 75, 36, [20, 0, 6]), (36, .iconst 1, 37, []), (37, .iadd, 38, []), (38, .goto 11, 41, [49]), (41, .aload_n 0, 42, []), (42, .getfield 75, 45, [20, 0, 6]), (45, .goto 4, 48, [49])],
  [(48, .iconst 0, 49, []), (49, .putfield 75, 52, [20, 0, 0, 6]), (52, .aload_n 0, 53, []), (53, .getfield 19, 56, [3, 2, 6]), (56, .iconst 1, 57, []), (57, .iaload, 58, []), (58, .istore_n 2, 59, []), (59, .aload_n 0, 60, []), (60, .iload_n 1, 61, []), (61, .invokevirtual 128, 64, [1, 6, 6, 87])],
  [(64, .iconst 0, 65, []), (65, .istore_n 3, 66, []), (66, .iload_n 3, 67, []), (67, .bipush 8, 69, []), (69, .if_icmp .ge 15, 72, [84]), (72, .aload_n 0, 73, []), (73, .iload_n 1, 74, []), (74, .iload_n 3, 75, []), (75, .invokevirtual 132, 78, [2, 6, 6, 88]), (78, .iinc 3 1, 81, [])],
  [(81, .goto (-15), 84, [66]), (84, .aload_n 0, 85, []), (85, .iload_n 1, 86, []), (86, .invokevirtual 136, 89, [1, 6, 6, 89]), (89, .iload_n 1, 90, []), (90, .ifCond .ne 40, 93, [130]), (93, .aload_n 0, 94, []), (94, .getfield 69, 97, [18, 0, 6])],
  [(97, .ifCond .ne 33, 100, [130]), (100, .aload_n 0, 101, []), (101, .getfield 65, 104, [17, 0, 6]), (104, .sipush (-350), 107, []), (107, .if_icmp .lt 23, 110, [130]), (110, .aload_n 0, 111, []), (111, .getfield 65, 114, [17, 0, 6])],
  [(114, .sipush 350, 117, []), (117, .if_icmp .gt 13, 120, [130]), (120, .aload_n 0, 121, []), (121, .aload_n 0, 122, []), (122, .getfield 7, 125, [0, 2, 6]), (125, .iconst 1, 126, []), (126, .iaload, 127, []), (127, .putfield 82, 130, [22, 0, 0, 6])],
  [(130, .aload_n 0, 131, []), (131, .getfield 19, 134, [3, 2, 6]), (134, .iconst 1, 135, []), (135, .iaload, 136, []), (136, .iload_n 2, 137, []), (137, .if_icmp .le 29, 140, [166]), (140, .aload_n 0, 141, []), (141, .getfield 82, 144, [22, 0, 6])],
  [(144, .aload_n 0, 145, []), (145, .getfield 7, 148, [0, 2, 6]), (148, .iconst 1, 149, []), (149, .iaload, 150, []), (150, .bipush 25, 152, []), (152, .isub, 153, []), (153, .if_icmp .ge 13, 156, [166]), (156, .aload_n 0, 157, []), (157, .dup, 158, []), (158, .getfield 85, 161, [23, 0, 6])],
  [(161, .iconst 1, 162, []), (162, .iadd, 163, []), (163, .putfield 85, 166, [23, 0, 0, 6]), (166, .return_, 167, [])]]
def pm_m90 : pm_Mt := (⟨"PlatformDoorsModel", "stepOne", "(I)V"⟩, prog_9_method_18_code, 4, none, pm_c90, 0)
/-- 91: PlatformDoorsModel.noSide(I)Z -/
def pm_c91 : pm_Cd := [
  [(0, .iload_n 0, 1, []), (1, .ifCond .lt 8, 4, [9]), (4, .iload_n 0, 5, []), (5, .iconst 1, 6, []), (6, .if_icmp .le 7, 9, [13]), (9, .iconst 1, 10, []), (10, .goto 4, 13, [14]), (13, .iconst 0, 14, []), (14, .ireturn, 15, [])]]
def pm_m91 : pm_Mt := (⟨"PlatformDoorsModel", "noSide", "(I)Z"⟩, prog_9_method_19_code, 1, (some .boolean), pm_c91, 2)
/-- 92: PlatformDoorsModel.step(II)I -/
def pm_c92 : pm_Cd := [
  [(0, .iload_n 1, 1, []), (1, .invokestatic 139, 4, [1, 91]), (4, .ifCond .ne 15, 7, [19]), (7, .iload_n 2, 8, []), (8, .iconst 1, 9, []), (9, .if_icmp .lt 10, 12, [19]), (12, .iload_n 2, 13, []), (13, .sipush 500, 16, [])],
  [(16, .if_icmp .le 5, 19, [21]), (19, .iconst (-1), 20, []), (20, .ireturn, 21, []), (21, .iconst 0, 22, []), (22, .istore_n 3, 23, []), (23, .iload_n 3, 24, []), (24, .iload_n 2, 25, []), (25, .if_icmp .ge 14, 28, [39]), (28, .aload_n 0, 29, []), (29, .iload_n 1, 30, []), (30, .invokevirtual 142, 33, [1, 6, 6, 90])],
  [(33, .iinc 3 1, 36, []), (36, .goto (-13), 39, [23]), (39, .aload_n 0, 40, []), (40, .getfield 7, 43, [0, 2, 6]), (43, .iload_n 1, 44, []), (44, .iaload, 45, []), (45, .ireturn, 46, [])]]
def pm_m92 : pm_Mt := (⟨"PlatformDoorsModel", "step", "(II)I"⟩, prog_9_method_20_code, 4, (some .int), pm_c92, 1)
/-- 93: PlatformDoorsModel.arrive(II)I -/
def pm_c93 : pm_Cd := [
  [(0, .iload_n 1, 1, []), (1, .ldc 145, 3, [2000000, 1]), (3, .if_icmp .lt 20, 6, [23]), (6, .iload_n 1, 7, []), (7, .ldc 146, 9, [2000000, 0]), (9, .if_icmp .gt 14, 12, [23]), (12, .iload_n 2, 13, []), (13, .ifCond .lt 10, 16, [23])],
  [(16, .iload_n 2, 17, []), (17, .sipush 30000, 20, []), (20, .if_icmp .le 5, 23, [25]), (23, .iconst (-1), 24, []), (24, .ireturn, 25, []), (25, .aload_n 0, 26, []), (26, .iload_n 1, 27, []), (27, .putfield 65, 30, [17, 0, 0, 6]), (30, .aload_n 0, 31, []), (31, .iload_n 2, 32, [])],
  [(32, .putfield 69, 35, [18, 0, 0, 6]), (35, .iconst 0, 36, []), (36, .ireturn, 37, [])]]
def pm_m93 : pm_Mt := (⟨"PlatformDoorsModel", "arrive", "(II)I"⟩, prog_9_method_21_code, 3, (some .int), pm_c93, 1)
/-- 94: PlatformDoorsModel.error(I)I -/
def pm_c94 : pm_Cd := [
  [(0, .iload_n 1, 1, []), (1, .sipush (-1000), 4, []), (4, .if_icmp .lt 10, 7, [14]), (7, .iload_n 1, 8, []), (8, .sipush 1000, 11, []), (11, .if_icmp .le 7, 14, [18]), (14, .sipush (-2000), 17, [])],
  [(17, .ireturn, 18, []), (18, .aload_n 0, 19, []), (19, .getfield 72, 22, [19, 0, 6]), (22, .istore_n 2, 23, []), (23, .aload_n 0, 24, []), (24, .iload_n 1, 25, []), (25, .putfield 72, 28, [19, 0, 0, 6]), (28, .iload_n 2, 29, []), (29, .ireturn, 30, [])]]
def pm_m94 : pm_Mt := (⟨"PlatformDoorsModel", "error", "(I)I"⟩, prog_9_method_22_code, 3, (some .int), pm_c94, 1)
/-- 95: PlatformDoorsModel.command(Z)Z -/
def pm_c95 : pm_Cd := [
  [(0, .aload_n 0, 1, []), (1, .getfield 78, 4, [21, 1, 6]), (4, .istore_n 2, 5, []), (5, .aload_n 0, 6, []), (6, .iload_n 1, 7, []), (7, .putfield 78, 10, [21, 1, 0, 6]), (10, .iload_n 2, 11, []), (11, .ireturn, 12, [])]]
def pm_m95 : pm_Mt := (⟨"PlatformDoorsModel", "command", "(Z)Z"⟩, prog_9_method_23_code, 3, (some .boolean), pm_c95, 2)
/-- 96: PlatformDoorsModel.noLeaf(II)Z -/
def pm_c96 : pm_Cd := [
  [(0, .iload_n 0, 1, []), (1, .invokestatic 139, 4, [1, 91]), (4, .ifCond .ne 13, 7, [17]), (7, .iload_n 1, 8, []), (8, .ifCond .lt 9, 11, [17]), (11, .iload_n 1, 12, []), (12, .bipush 7, 14, []), (14, .if_icmp .le 7, 17, [21])],
  [(17, .iconst 1, 18, []), (18, .goto 4, 21, [22]), (21, .iconst 0, 22, []), (22, .ireturn, 23, [])]]
def pm_m96 : pm_Mt := (⟨"PlatformDoorsModel", "noLeaf", "(II)Z"⟩, prog_9_method_24_code, 2, (some .boolean), pm_c96, 2)
/-- 97: PlatformDoorsModel.isolate(IIZ)I -/
def pm_c97 : pm_Cd := [
  [(0, .iload_n 1, 1, []), (1, .iload_n 2, 2, []), (2, .invokestatic 147, 5, [2, 96]), (5, .ifCond .eq 5, 8, [10]), (8, .iconst (-1), 9, []), (9, .ireturn, 10, []), (10, .aload_n 0, 11, []), (11, .getfield 38, 14, [9, 2, 6]), (14, .bipush 8, 16, [])],
  [(16, .iload_n 1, 17, []), (17, .imul, 18, []), (18, .iload_n 2, 19, []), (19, .iadd, 20, []), (20, .baload, 21, []), (21, .ifCond .eq 7, 24, [28]), (24, .iconst 1, 25, []), (25, .goto 4, 28, [29]), (28, .iconst 0, 29, []), (29, .istore 4, 31, []), (31, .aload_n 0, 32, [])],
  [(32, .getfield 38, 35, [9, 2, 6]), (35, .bipush 8, 37, []), (37, .iload_n 1, 38, []), (38, .imul, 39, []), (39, .iload_n 2, 40, []), (40, .iadd, 41, []), (41, .iload_n 3, 42, []), (42, .bastore, 43, []), (43, .iload 4, 45, []), (45, .ireturn, 46, [])]]
def pm_m97 : pm_Mt := (⟨"PlatformDoorsModel", "isolate", "(IIZ)I"⟩, prog_9_method_25_code, 5, (some .int), pm_c97, 1)
/-- 98: PlatformDoorsModel.release(IIZ)I -/
def pm_c98 : pm_Cd := [
  [(0, .iload_n 1, 1, []), (1, .iload_n 2, 2, []), (2, .invokestatic 147, 5, [2, 96]), (5, .ifCond .eq 5, 8, [10]), (8, .iconst (-1), 9, []), (9, .ireturn, 10, []), (10, .aload_n 0, 11, []), (11, .getfield 41, 14, [10, 2, 6]), (14, .bipush 8, 16, [])],
  [(16, .iload_n 1, 17, []), (17, .imul, 18, []), (18, .iload_n 2, 19, []), (19, .iadd, 20, []), (20, .baload, 21, []), (21, .ifCond .eq 7, 24, [28]), (24, .iconst 1, 25, []), (25, .goto 4, 28, [29]), (28, .iconst 0, 29, []), (29, .istore 4, 31, []), (31, .aload_n 0, 32, [])],
  [(32, .getfield 41, 35, [10, 2, 6]), (35, .bipush 8, 37, []), (37, .iload_n 1, 38, []), (38, .imul, 39, []), (39, .iload_n 2, 40, []), (40, .iadd, 41, []), (41, .iload_n 3, 42, []), (42, .bastore, 43, []), (43, .iload 4, 45, []), (45, .ireturn, 46, [])]]
def pm_m98 : pm_Mt := (⟨"PlatformDoorsModel", "release", "(IIZ)I"⟩, prog_9_method_26_code, 5, (some .int), pm_c98, 1)
/-- 99: PlatformDoorsModel.obstruct(III)I -/
def pm_c99 : pm_Cd := [
  [(0, .iload_n 1, 1, []), (1, .iload_n 2, 2, []), (2, .invokestatic 147, 5, [2, 96]), (5, .ifCond .ne 14, 8, [19]), (8, .iload_n 3, 9, []), (9, .ifCond .lt 10, 12, [19]), (12, .iload_n 3, 13, []), (13, .sipush 1000, 16, [])],
  [(16, .if_icmp .le 5, 19, [21]), (19, .iconst (-1), 20, []), (20, .ireturn, 21, []), (21, .aload_n 0, 22, []), (22, .getfield 50, 25, [13, 2, 6]), (25, .bipush 8, 27, []), (27, .iload_n 1, 28, []), (28, .imul, 29, []), (29, .iload_n 2, 30, []), (30, .iadd, 31, []), (31, .iaload, 32, [])],
  [(32, .istore 4, 34, []), (34, .aload_n 0, 35, []), (35, .getfield 50, 38, [13, 2, 6]), (38, .bipush 8, 40, []), (40, .iload_n 1, 41, []), (41, .imul, 42, []), (42, .iload_n 2, 43, []), (43, .iadd, 44, []), (44, .iload_n 3, 45, []), (45, .iastore, 46, []), (46, .iload 4, 48, [])],
  [(48, .ireturn, 49, [])]]
def pm_m99 : pm_Mt := (⟨"PlatformDoorsModel", "obstruct", "(III)I"⟩, prog_9_method_27_code, 5, (some .int), pm_c99, 1)
/-- 100: PlatformDoorsModel.contact(IIII)I -/
def pm_c100 : pm_Cd := [
  [(0, .iload_n 1, 1, []), (1, .iload_n 2, 2, []), (2, .invokestatic 147, 5, [2, 96]), (5, .ifCond .ne 23, 8, [28]), (8, .iload_n 3, 9, []), (9, .ifCond .lt 19, 12, [28]), (12, .iload_n 3, 13, []), (13, .iconst 1, 14, []), (14, .if_icmp .gt 14, 17, [28])],
  [(17, .iload 4, 19, []), (19, .ifCond .lt 9, 22, [28]), (22, .iload 4, 24, []), (24, .iconst 2, 25, []), (25, .if_icmp .le 5, 28, [30]), (28, .iconst (-1), 29, []), (29, .ireturn, 30, []), (30, .iconst 2, 31, []), (31, .bipush 8, 33, [])],
  [(33, .iload_n 1, 34, []), (34, .imul, 35, []), (35, .iload_n 2, 36, []), (36, .iadd, 37, []), (37, .imul, 38, []), (38, .iload_n 3, 39, []), (39, .iadd, 40, []), (40, .istore 5, 42, []), (42, .aload_n 0, 43, []), (43, .getfield 59, 46, [16, 2, 6]), (46, .iload 5, 48, [])],
  [(48, .iaload, 49, []), (49, .istore 6, 51, []), (51, .aload_n 0, 52, []), (52, .getfield 59, 55, [16, 2, 6]), (55, .iload 5, 57, []), (57, .iload 4, 59, []), (59, .iastore, 60, []), (60, .iload 6, 62, []), (62, .ireturn, 63, [])]]
def pm_m100 : pm_Mt := (⟨"PlatformDoorsModel", "contact", "(IIII)I"⟩, prog_9_method_28_code, 7, (some .int), pm_c100, 1)
/-- 101: PlatformDoorsModel.noFrame(II)Z -/
def pm_c101 : pm_Cd := [
  [(0, .iload_n 1, 1, []), (1, .invokestatic 139, 4, [1, 91]), (4, .ifCond .ne 17, 7, [21]), (7, .iload_n 2, 8, []), (8, .ifCond .lt 13, 11, [21]), (11, .iload_n 2, 12, []), (12, .aload_n 0, 13, []), (13, .getfield 29, 16, [6, 2, 6])],
  [(16, .iload_n 1, 17, []), (17, .iaload, 18, []), (18, .if_icmp .lt 7, 21, [25]), (21, .iconst 1, 22, []), (22, .goto 4, 25, [26]), (25, .iconst 0, 26, []), (26, .ireturn, 27, [])]]
def pm_m101 : pm_Mt := (⟨"PlatformDoorsModel", "noFrame", "(II)Z"⟩, prog_9_method_29_code, 3, (some .boolean), pm_c101, 2)
/-- 102: PlatformDoorsModel.takeOut(II)V -/
def pm_c102 : pm_Cd := [
  [(0, .bipush 72, 2, []), (2, .iload_n 1, 3, []), (3, .imul, 4, []), (4, .bipush 6, 6, []), (6, .iload_n 2, 7, []), (7, .imul, 8, []), (8, .iadd, 9, []), (9, .istore_n 3, 10, []), (10, .iload_n 3, 11, []), (11, .bipush 6, 13, []), (13, .iadd, 14, []), (14, .bipush 72, 16, [])],
  [(16, .iload_n 1, 17, []), (17, .imul, 18, []), (18, .bipush 6, 20, []), (20, .aload_n 0, 21, []), (21, .getfield 29, 24, [6, 2, 6]), (24, .iload_n 1, 25, []), (25, .iaload, 26, []), (26, .imul, 27, []), (27, .iadd, 28, []), (28, .if_icmp .ge 24, 31, [52]), (31, .aload_n 0, 32, [])],
  [(32, .getfield 32, 35, [7, 2, 6]), (35, .iload_n 3, 36, []), (36, .aload_n 0, 37, []), (37, .getfield 32, 40, [7, 2, 6]), (40, .iload_n 3, 41, []), (41, .bipush 6, 43, []), (43, .iadd, 44, []), (44, .iaload, 45, []), (45, .iastore, 46, []), (46, .iinc 3 1, 49, [])],
  [(49, .goto (-39), 52, [10]), (52, .aload_n 0, 53, []), (53, .getfield 29, 56, [6, 2, 6]), (56, .iload_n 1, 57, []), (57, .dup2, 58, []), (58, .iaload, 59, []), (59, .iconst 1, 60, []), (60, .isub, 61, []), (61, .iastore, 62, []), (62, .return_, 63, [])]]
def pm_m102 : pm_Mt := (⟨"PlatformDoorsModel", "takeOut", "(II)V"⟩, prog_9_method_30_code, 4, none, pm_c102, 0)
/-- 103: PlatformDoorsModel.deliver(II)I -/
def pm_c103 : pm_Cd := [
  [(0, .aload_n 0, 1, []), (1, .iload_n 1, 2, []), (2, .iload_n 2, 3, []), (3, .invokevirtual 151, 6, [2, 6, 6, 101]), (6, .ifCond .eq 5, 9, [11]), (9, .iconst (-1), 10, []), (10, .ireturn, 11, []), (11, .bipush 72, 13, []), (13, .iload_n 1, 14, []), (14, .imul, 15, []), (15, .bipush 6, 17, [])],
  [(17, .iload_n 2, 18, []), (18, .imul, 19, []), (19, .iadd, 20, []), (20, .istore_n 3, 21, []), (21, .aload_n 0, 22, []), (22, .getfield 22, 25, [4, 2, 6]), (25, .iload_n 1, 26, []), (26, .baload, 27, []), (27, .ifCond .eq 21, 30, [48]), (30, .aload_n 0, 31, []), (31, .getfield 32, 34, [7, 2, 6])],
  [(34, .iload_n 3, 35, []), (35, .iaload, 36, []), (36, .aload_n 0, 37, []), (37, .getfield 26, 40, [5, 2, 6]), (40, .bipush 6, 42, []), (42, .iload_n 1, 43, []), (43, .imul, 44, []), (44, .iaload, 45, []), (45, .if_icmp .le 7, 48, [52])],
  [(48, .iconst 1, 49, []), (49, .goto 4, 52, [53]), (52, .iconst 0, 53, []), (53, .istore 4, 55, []), (55, .iconst 0, 56, []), (56, .istore 5, 58, []), (58, .iload 5, 60, []), (60, .bipush 6, 62, []), (62, .if_icmp .ge 35, 65, [97])],
  [(65, .iload 4, 67, []), (67, .ifCond .eq 30, 70, [97]), (70, .aload_n 0, 71, []), (71, .getfield 26, 74, [5, 2, 6]), (74, .bipush 6, 76, []), (76, .iload_n 1, 77, []), (77, .imul, 78, []), (78, .iload 5, 80, [])],
  [(80, .iadd, 81, []), (81, .aload_n 0, 82, []), (82, .getfield 32, 85, [7, 2, 6]), (85, .iload_n 3, 86, []), (86, .iload 5, 88, []), (88, .iadd, 89, []), (89, .iaload, 90, []), (90, .iastore, 91, []), (91, .iinc 5 1, 94, []), (94, .goto (-36), 97, [58])],
  [(97, .aload_n 0, 98, []), (98, .getfield 22, 101, [4, 2, 6]), (101, .iload_n 1, 102, []), (102, .iconst 1, 103, []), (103, .bastore, 104, []), (104, .aload_n 0, 105, []), (105, .iload_n 1, 106, []), (106, .iload_n 2, 107, []), (107, .invokevirtual 154, 110, [2, 6, 6, 102]), (110, .iload 4, 112, [])],
  [(112, .ifCond .eq 7, 115, [119]), (115, .iconst 1, 116, []), (116, .goto 4, 119, [120]), (119, .iconst 0, 120, []), (120, .ireturn, 121, [])]]
def pm_m103 : pm_Mt := (⟨"PlatformDoorsModel", "deliver", "(II)I"⟩, prog_9_method_31_code, 6, (some .int), pm_c103, 1)
/-- 104: PlatformDoorsModel.drop(II)I -/
def pm_c104 : pm_Cd := [
  [(0, .aload_n 0, 1, []), (1, .iload_n 1, 2, []), (2, .iload_n 2, 3, []), (3, .invokevirtual 151, 6, [2, 6, 6, 101]), (6, .ifCond .eq 5, 9, [11]), (9, .iconst (-1), 10, []), (10, .ireturn, 11, []), (11, .aload_n 0, 12, []), (12, .iload_n 1, 13, []), (13, .iload_n 2, 14, []), (14, .invokevirtual 154, 17, [2, 6, 6, 102])],
  [(17, .aload_n 0, 18, []), (18, .getfield 29, 21, [6, 2, 6]), (21, .iload_n 1, 22, []), (22, .iaload, 23, []), (23, .ireturn, 24, [])]]
def pm_m104 : pm_Mt := (⟨"PlatformDoorsModel", "drop", "(II)I"⟩, prog_9_method_32_code, 3, (some .int), pm_c104, 1)
/-- 105: PlatformDoorsModel.twin(II)I -/
def pm_c105 : pm_Cd := [
  [(0, .aload_n 0, 1, []), (1, .iload_n 1, 2, []), (2, .iload_n 2, 3, []), (3, .invokevirtual 151, 6, [2, 6, 6, 101]), (6, .ifCond .ne 14, 9, [20]), (9, .aload_n 0, 10, []), (10, .getfield 29, 13, [6, 2, 6]), (13, .iload_n 1, 14, []), (14, .iaload, 15, []), (15, .bipush 12, 17, [])],
  [(17, .if_icmp .ne 5, 20, [22]), (20, .iconst (-1), 21, []), (21, .ireturn, 22, []), (22, .bipush 72, 24, []), (24, .iload_n 1, 25, []), (25, .imul, 26, []), (26, .bipush 6, 28, []), (28, .aload_n 0, 29, []), (29, .getfield 29, 32, [6, 2, 6])],
  [(32, .iload_n 1, 33, []), (33, .iaload, 34, []), (34, .imul, 35, []), (35, .iadd, 36, []), (36, .iconst 5, 37, []), (37, .iadd, 38, []), (38, .istore_n 3, 39, []), (39, .iload_n 3, 40, []), (40, .bipush 72, 42, []), (42, .iload_n 1, 43, []), (43, .imul, 44, []), (44, .bipush 6, 46, []), (46, .iload_n 2, 47, []), (47, .imul, 48, [])],
  [(48, .iadd, 49, []), (49, .iconst 5, 50, []), (50, .iadd, 51, []), (51, .if_icmp .le 24, 54, [75]), (54, .aload_n 0, 55, []), (55, .getfield 32, 58, [7, 2, 6]), (58, .iload_n 3, 59, []), (59, .aload_n 0, 60, []), (60, .getfield 32, 63, [7, 2, 6]), (63, .iload_n 3, 64, [])],
  [(64, .bipush 6, 66, []), (66, .isub, 67, []), (67, .iaload, 68, []), (68, .iastore, 69, []), (69, .iinc 3 (-1), 72, []), (72, .goto (-33), 75, [39]), (75, .aload_n 0, 76, []), (76, .getfield 29, 79, [6, 2, 6]), (79, .iload_n 1, 80, [])],
  [(80, .dup2, 81, []), (81, .iaload, 82, []), (82, .iconst 1, 83, []), (83, .iadd, 84, []), (84, .iastore, 85, []), (85, .aload_n 0, 86, []), (86, .getfield 29, 89, [6, 2, 6]), (89, .iload_n 1, 90, []), (90, .iaload, 91, []), (91, .ireturn, 92, [])]]
def pm_m105 : pm_Mt := (⟨"PlatformDoorsModel", "twin", "(II)I"⟩, prog_9_method_33_code, 4, (some .int), pm_c105, 1)
/-- 106: PlatformDoorsModel.frame(III)I -/
def pm_c106 : pm_Cd := [
  [(0, .aload_n 0, 1, []), (1, .iload_n 1, 2, []), (2, .iload_n 2, 3, []), (3, .invokevirtual 151, 6, [2, 6, 6, 101]), (6, .ifCond .ne 12, 9, [18]), (9, .iload_n 3, 10, []), (10, .ifCond .lt 8, 13, [18]), (13, .iload_n 3, 14, []), (14, .iconst 5, 15, []), (15, .if_icmp .le 7, 18, [22])],
  [(18, .iconst (-1), 19, []), (19, .goto 19, 22, [38]), (22, .aload_n 0, 23, []), (23, .getfield 32, 26, [7, 2, 6]), (26, .bipush 72, 28, []), (28, .iload_n 1, 29, []), (29, .imul, 30, []), (30, .bipush 6, 32, [])],
  [(32, .iload_n 2, 33, []), (33, .imul, 34, []), (34, .iadd, 35, []), (35, .iload_n 3, 36, []), (36, .iadd, 37, []), (37, .iaload, 38, []), (38, .ireturn, 39, [])]]
def pm_m106 : pm_Mt := (⟨"PlatformDoorsModel", "frame", "(III)I"⟩, prog_9_method_34_code, 4, (some .int), pm_c106, 1)
/-- 107: PlatformDoorsModel.leaf(III)I -/
def pm_c107 : pm_Cd := [
  [(0, .iload_n 1, 1, []), (1, .iload_n 2, 2, []), (2, .invokestatic 147, 5, [2, 96]), (5, .ifCond .eq 5, 8, [10]), (8, .iconst (-1), 9, []), (9, .ireturn, 10, []), (10, .bipush 8, 12, []), (12, .iload_n 1, 13, []), (13, .imul, 14, []), (14, .iload_n 2, 15, []), (15, .iadd, 16, [])],
  [(16, .istore 4, 18, []), (18, .iload_n 3, 19, []), (19, .tableswitch 139 0 7 #[45, 53, 69, 84, 99, 107, 123, 131], 64, [158, 64, 72, 88, 103, 118, 126, 142, 150])],
  [],
  [],
  [(64, .aload_n 0, 65, []), (65, .getfield 35, 68, [8, 2, 6]), (68, .iload 4, 70, []), (70, .iaload, 71, []), (71, .ireturn, 72, []), (72, .aload_n 0, 73, []), (73, .getfield 44, 76, [11, 2, 6]), (76, .iload 4, 78, []), (78, .baload, 79, []), (79, .ifCond .eq 7, 82, [86])],
  [(82, .iconst 1, 83, []), (83, .goto 4, 86, [87]), (86, .iconst 0, 87, []), (87, .ireturn, 88, []), (88, .aload_n 0, 89, []), (89, .iload 4, 91, []), (91, .invokevirtual 92, 94, [1, 6, 6, 79]), (94, .ifCond .eq 7, 97, [101])],
  [(97, .iconst 1, 98, []), (98, .goto 4, 101, [102]), (101, .iconst 0, 102, []), (102, .ireturn, 103, []), (103, .aload_n 0, 104, []), (104, .iload 4, 106, []), (106, .invokevirtual 100, 109, [1, 6, 6, 81]), (109, .ifCond .eq 7, 112, [116])],
  [(112, .iconst 1, 113, []), (113, .goto 4, 116, [117]), (116, .iconst 0, 117, []), (117, .ireturn, 118, []), (118, .aload_n 0, 119, []), (119, .getfield 53, 122, [14, 2, 6]), (122, .iload 4, 124, []), (124, .iaload, 125, []), (125, .ireturn, 126, []), (126, .aload_n 0, 127, []), (127, .getfield 47, 130, [12, 2, 6])],
  [(130, .iload 4, 132, []), (132, .baload, 133, []), (133, .ifCond .eq 7, 136, [140]), (136, .iconst 1, 137, []), (137, .goto 4, 140, [141]), (140, .iconst 0, 141, []), (141, .ireturn, 142, []), (142, .aload_n 0, 143, []), (143, .getfield 56, 146, [15, 2, 6])],
  [(146, .iload 4, 148, []), (148, .iaload, 149, []), (149, .ireturn, 150, []), (150, .aload_n 0, 151, []), (151, .getfield 50, 154, [13, 2, 6]), (154, .iload 4, 156, []), (156, .iaload, 157, []), (157, .ireturn, 158, []), (158, .iconst (-1), 159, []), (159, .ireturn, 160, [])]]
def pm_m107 : pm_Mt := (⟨"PlatformDoorsModel", "leaf", "(III)I"⟩, prog_9_method_35_code, 5, (some .int), pm_c107, 1)
/-- 108: PlatformDoorsModel.told(II)I -/
def pm_c108 : pm_Cd := [
  [(0, .iload_n 1, 1, []), (1, .invokestatic 139, 4, [1, 91]), (4, .ifCond .eq 5, 7, [9]), (7, .iconst (-1), 8, []), (8, .ireturn, 9, []), (9, .iload_n 2, 10, []), (10, .tableswitch 123 0 7 #[46, 53, 60, 66, 89, 96, 102, 116], 56, [133, 56, 63, 70, 76, 99, 106, 112, 126])],
  [],
  [],
  [(56, .aload_n 0, 57, []), (57, .getfield 7, 60, [0, 2, 6]), (60, .iload_n 1, 61, []), (61, .iaload, 62, []), (62, .ireturn, 63, []), (63, .aload_n 0, 64, [])],
  [(64, .getfield 13, 67, [1, 2, 6]), (67, .iload_n 1, 68, []), (68, .iaload, 69, []), (69, .ireturn, 70, []), (70, .aload_n 0, 71, []), (71, .iload_n 1, 72, []), (72, .invokevirtual 88, 75, [1, 6, 6, 75]), (75, .ireturn, 76, []), (76, .aload_n 0, 77, []), (77, .getfield 22, 80, [4, 2, 6])],
  [(80, .iload_n 1, 81, []), (81, .baload, 82, []), (82, .ifCond .eq 15, 85, [97]), (85, .aload_n 0, 86, []), (86, .getfield 26, 89, [5, 2, 6]), (89, .bipush 6, 91, []), (91, .iload_n 1, 92, []), (92, .imul, 93, []), (93, .iaload, 94, []), (94, .goto 4, 97, [98])],
  [(97, .iconst 0, 98, []), (98, .ireturn, 99, []), (99, .aload_n 0, 100, []), (100, .getfield 29, 103, [6, 2, 6]), (103, .iload_n 1, 104, []), (104, .iaload, 105, []), (105, .ireturn, 106, []), (106, .aload_n 0, 107, []), (107, .iload_n 1, 108, []), (108, .invokevirtual 107, 111, [1, 6, 6, 82]), (111, .ireturn, 112, [])],
  [(112, .aload_n 0, 113, []), (113, .iload_n 1, 114, []), (114, .invokevirtual 125, 117, [1, 6, 6, 83]), (117, .ifCond .eq 7, 120, [124]), (120, .iconst 1, 121, []), (121, .goto 4, 124, [125]), (124, .iconst 0, 125, []), (125, .ireturn, 126, []), (126, .aload_n 0, 127, []), (127, .getfield 19, 130, [3, 2, 6])],
  [(130, .iload_n 1, 131, []), (131, .iaload, 132, []), (132, .ireturn, 133, []), (133, .iconst (-1), 134, []), (134, .ireturn, 135, [])]]
def pm_m108 : pm_Mt := (⟨"PlatformDoorsModel", "told", "(II)I"⟩, prog_9_method_36_code, 3, (some .int), pm_c108, 1)
/-- 109: PlatformDoorsModel.mayGo()Z -/
def pm_c109 : pm_Cd := [
  [(0, .aload_n 0, 1, []), (1, .iconst 0, 2, []), (2, .invokevirtual 110, 5, [1, 6, 6, 76]), (5, .ifCond .eq 36, 8, [41]), (8, .aload_n 0, 9, []), (9, .getfield 26, 12, [5, 2, 6]), (12, .iconst 4, 13, []), (13, .iaload, 14, []), (14, .iconst 1, 15, []), (15, .if_icmp .ne 26, 18, [41])],
  [(18, .aload_n 0, 19, []), (19, .getfield 13, 22, [1, 2, 6]), (22, .iconst 0, 23, []), (23, .iaload, 24, []), (24, .ifCond .ne 17, 27, [41]), (27, .aload_n 0, 28, []), (28, .iconst 0, 29, []), (29, .invokevirtual 107, 32, [1, 6, 6, 82])],
  [(32, .bipush 8, 34, []), (34, .if_icmp .ne 7, 37, [41]), (37, .iconst 1, 38, []), (38, .goto 4, 41, [42]), (41, .iconst 0, 42, []), (42, .ireturn, 43, [])]]
def pm_m109 : pm_Mt := (⟨"PlatformDoorsModel", "mayGo", "()Z"⟩, prog_9_method_37_code, 1, (some .boolean), pm_c109, 2)
/-- 110: PlatformDoorsModel.breaches()I -/
def pm_c110 : pm_Cd := [
  [(0, .aload_n 0, 1, []), (1, .getfield 85, 4, [23, 0, 6]), (4, .ireturn, 5, [])]]
def pm_m110 : pm_Mt := (⟨"PlatformDoorsModel", "breaches", "()I"⟩, prog_9_method_38_code, 1, (some .int), pm_c110, 1)
def pm_cL : pm_Cd := [
  [(0, .new 7, 3, [0]), (3, .dup, 4, []), (4, .invokespecial 9, 7, [0, 46]), (7, .astore_n 1, 8, []), (8, .new 10, 11, [6]), (11, .dup, 12, []), (12, .invokespecial 12, 15, [0, 73]), (15, .astore_n 2, 16, [])],
  [(16, .iconst 0, 17, []), (17, .istore_n 3, 18, []), (18, .iload_n 3, 19, []), (19, .aload_n 0, 20, []), (20, .arraylength, 21, []), (21, .iconst 5, 22, []), (22, .isub, 23, []), (23, .if_icmp .gt 696, 26, [719]), (26, .aload_n 0, 27, []), (27, .iload_n 3, 28, []), (28, .iaload, 29, []), (29, .bipush 31, 31, []), (31, .iand, 32, [])],
  [(32, .tableswitch 681 0 16 #[84, 95, 128, 161, 184, 223, 282, 341, 384, 437, 470, 503, 536, 579, 622, 655, 668], 116, [713, 116, 127, 160, 193, 216, 255, 314, 373, 416, 469, 502, 535, 568, 611, 654, 687, 700])],
  [],
  [],
  [],
  [],
  [(116, .aload_n 1, 117, []), (117, .invokevirtual 13, 120, [0, 0, 0, 47]), (120, .aload_n 2, 121, []), (121, .invokevirtual 16, 124, [0, 6, 6, 74]), (124, .goto 589, 127, [713]), (127, .aload_n 1, 128, [])],
  [(128, .aload_n 0, 129, []), (129, .iload_n 3, 130, []), (130, .iconst 1, 131, []), (131, .iadd, 132, []), (132, .iaload, 133, []), (133, .aload_n 0, 134, []), (134, .iload_n 3, 135, []), (135, .iconst 2, 136, []), (136, .iadd, 137, []), (137, .iaload, 138, []), (138, .invokevirtual 17, 141, [2, 0, 0, 48]), (141, .aload_n 2, 142, []), (142, .aload_n 0, 143, []), (143, .iload_n 3, 144, [])],
  [(144, .iconst 1, 145, []), (145, .iadd, 146, []), (146, .iaload, 147, []), (147, .aload_n 0, 148, []), (148, .iload_n 3, 149, []), (149, .iconst 2, 150, []), (150, .iadd, 151, []), (151, .iaload, 152, []), (152, .invokevirtual 21, 155, [2, 6, 6, 92]), (155, .if_icmp .eq 558, 158, [713]), (158, .iconst 0, 159, []), (159, .ireturn, 160, [])],
  [(160, .aload_n 1, 161, []), (161, .aload_n 0, 162, []), (162, .iload_n 3, 163, []), (163, .iconst 1, 164, []), (164, .iadd, 165, []), (165, .iaload, 166, []), (166, .aload_n 0, 167, []), (167, .iload_n 3, 168, []), (168, .iconst 2, 169, []), (169, .iadd, 170, []), (170, .iaload, 171, []), (171, .invokevirtual 22, 174, [2, 0, 0, 49]), (174, .aload_n 2, 175, []), (175, .aload_n 0, 176, [])],
  [(176, .iload_n 3, 177, []), (177, .iconst 1, 178, []), (178, .iadd, 179, []), (179, .iaload, 180, []), (180, .aload_n 0, 181, []), (181, .iload_n 3, 182, []), (182, .iconst 2, 183, []), (183, .iadd, 184, []), (184, .iaload, 185, []), (185, .invokevirtual 25, 188, [2, 6, 6, 93]), (188, .if_icmp .eq 525, 191, [713]), (191, .iconst 0, 192, [])],
  [(192, .ireturn, 193, []), (193, .aload_n 1, 194, []), (194, .aload_n 0, 195, []), (195, .iload_n 3, 196, []), (196, .iconst 1, 197, []), (197, .iadd, 198, []), (198, .iaload, 199, []), (199, .invokevirtual 26, 202, [1, 0, 0, 50]), (202, .aload_n 2, 203, []), (203, .aload_n 0, 204, []), (204, .iload_n 3, 205, []), (205, .iconst 1, 206, []), (206, .iadd, 207, []), (207, .iaload, 208, [])],
  [(208, .invokevirtual 30, 211, [1, 6, 6, 94]), (211, .if_icmp .eq 502, 214, [713]), (214, .iconst 0, 215, []), (215, .ireturn, 216, []), (216, .aload_n 1, 217, []), (217, .aload_n 0, 218, []), (218, .iload_n 3, 219, []), (219, .iconst 1, 220, []), (220, .iadd, 221, []), (221, .iaload, 222, []), (222, .ifCond .eq 7, 225, [229])],
  [(225, .iconst 1, 226, []), (226, .goto 4, 229, [230]), (229, .iconst 0, 230, []), (230, .invokevirtual 31, 233, [1, 0, 0, 51]), (233, .aload_n 2, 234, []), (234, .aload_n 0, 235, []), (235, .iload_n 3, 236, []), (236, .iconst 1, 237, []), (237, .iadd, 238, []), (238, .iaload, 239, []), (239, .ifCond .eq 7, 242, [246])],
  [(242, .iconst 1, 243, []), (243, .goto 4, 246, [247]), (246, .iconst 0, 247, []), (247, .invokevirtual 35, 250, [1, 6, 6, 95]), (250, .if_icmp .eq 463, 253, [713]), (253, .iconst 0, 254, []), (254, .ireturn, 255, []), (255, .aload_n 1, 256, [])],
  [(256, .aload_n 0, 257, []), (257, .iload_n 3, 258, []), (258, .iconst 1, 259, []), (259, .iadd, 260, []), (260, .iaload, 261, []), (261, .aload_n 0, 262, []), (262, .iload_n 3, 263, []), (263, .iconst 2, 264, []), (264, .iadd, 265, []), (265, .iaload, 266, []), (266, .aload_n 0, 267, []), (267, .iload_n 3, 268, []), (268, .iconst 3, 269, []), (269, .iadd, 270, []), (270, .iaload, 271, []), (271, .ifCond .eq 7, 274, [278])],
  [(274, .iconst 1, 275, []), (275, .goto 4, 278, [279]), (278, .iconst 0, 279, []), (279, .invokevirtual 36, 282, [3, 0, 0, 52]), (282, .aload_n 2, 283, []), (283, .aload_n 0, 284, []), (284, .iload_n 3, 285, []), (285, .iconst 1, 286, []), (286, .iadd, 287, []), (287, .iaload, 288, [])],
  [(288, .aload_n 0, 289, []), (289, .iload_n 3, 290, []), (290, .iconst 2, 291, []), (291, .iadd, 292, []), (292, .iaload, 293, []), (293, .aload_n 0, 294, []), (294, .iload_n 3, 295, []), (295, .iconst 3, 296, []), (296, .iadd, 297, []), (297, .iaload, 298, []), (298, .ifCond .eq 7, 301, [305]), (301, .iconst 1, 302, []), (302, .goto 4, 305, [306])],
  [(305, .iconst 0, 306, []), (306, .invokevirtual 40, 309, [3, 6, 6, 97]), (309, .if_icmp .eq 404, 312, [713]), (312, .iconst 0, 313, []), (313, .ireturn, 314, []), (314, .aload_n 1, 315, []), (315, .aload_n 0, 316, []), (316, .iload_n 3, 317, []), (317, .iconst 1, 318, []), (318, .iadd, 319, []), (319, .iaload, 320, [])],
  [(320, .aload_n 0, 321, []), (321, .iload_n 3, 322, []), (322, .iconst 2, 323, []), (323, .iadd, 324, []), (324, .iaload, 325, []), (325, .aload_n 0, 326, []), (326, .iload_n 3, 327, []), (327, .iconst 3, 328, []), (328, .iadd, 329, []), (329, .iaload, 330, []), (330, .ifCond .eq 7, 333, [337]), (333, .iconst 1, 334, []), (334, .goto 4, 337, [338])],
  [(337, .iconst 0, 338, []), (338, .invokevirtual 41, 341, [3, 0, 0, 53]), (341, .aload_n 2, 342, []), (342, .aload_n 0, 343, []), (343, .iload_n 3, 344, []), (344, .iconst 1, 345, []), (345, .iadd, 346, []), (346, .iaload, 347, []), (347, .aload_n 0, 348, []), (348, .iload_n 3, 349, []), (349, .iconst 2, 350, []), (350, .iadd, 351, []), (351, .iaload, 352, [])],
  [(352, .aload_n 0, 353, []), (353, .iload_n 3, 354, []), (354, .iconst 3, 355, []), (355, .iadd, 356, []), (356, .iaload, 357, []), (357, .ifCond .eq 7, 360, [364]), (360, .iconst 1, 361, []), (361, .goto 4, 364, [365]), (364, .iconst 0, 365, []), (365, .invokevirtual 44, 368, [3, 6, 6, 98])],
  [(368, .if_icmp .eq 345, 371, [713]), (371, .iconst 0, 372, []), (372, .ireturn, 373, []), (373, .aload_n 1, 374, []), (374, .aload_n 0, 375, []), (375, .iload_n 3, 376, []), (376, .iconst 1, 377, []), (377, .iadd, 378, []), (378, .iaload, 379, []), (379, .aload_n 0, 380, []), (380, .iload_n 3, 381, []), (381, .iconst 2, 382, []), (382, .iadd, 383, []), (383, .iaload, 384, [])],
  [(384, .aload_n 0, 385, []), (385, .iload_n 3, 386, []), (386, .iconst 3, 387, []), (387, .iadd, 388, []), (388, .iaload, 389, []), (389, .invokevirtual 45, 392, [3, 0, 0, 54]), (392, .aload_n 2, 393, []), (393, .aload_n 0, 394, []), (394, .iload_n 3, 395, []), (395, .iconst 1, 396, []), (396, .iadd, 397, []), (397, .iaload, 398, []), (398, .aload_n 0, 399, []), (399, .iload_n 3, 400, [])],
  [(400, .iconst 2, 401, []), (401, .iadd, 402, []), (402, .iaload, 403, []), (403, .aload_n 0, 404, []), (404, .iload_n 3, 405, []), (405, .iconst 3, 406, []), (406, .iadd, 407, []), (407, .iaload, 408, []), (408, .invokevirtual 49, 411, [3, 6, 6, 99]), (411, .if_icmp .eq 302, 414, [713]), (414, .iconst 0, 415, []), (415, .ireturn, 416, [])],
  [(416, .aload_n 1, 417, []), (417, .aload_n 0, 418, []), (418, .iload_n 3, 419, []), (419, .iconst 1, 420, []), (420, .iadd, 421, []), (421, .iaload, 422, []), (422, .aload_n 0, 423, []), (423, .iload_n 3, 424, []), (424, .iconst 2, 425, []), (425, .iadd, 426, []), (426, .iaload, 427, []), (427, .aload_n 0, 428, []), (428, .iload_n 3, 429, []), (429, .iconst 3, 430, []), (430, .iadd, 431, []), (431, .iaload, 432, [])],
  [(432, .aload_n 0, 433, []), (433, .iload_n 3, 434, []), (434, .iconst 4, 435, []), (435, .iadd, 436, []), (436, .iaload, 437, []), (437, .invokevirtual 50, 440, [4, 0, 0, 55]), (440, .aload_n 2, 441, []), (441, .aload_n 0, 442, []), (442, .iload_n 3, 443, []), (443, .iconst 1, 444, []), (444, .iadd, 445, []), (445, .iaload, 446, []), (446, .aload_n 0, 447, []), (447, .iload_n 3, 448, [])],
  [(448, .iconst 2, 449, []), (449, .iadd, 450, []), (450, .iaload, 451, []), (451, .aload_n 0, 452, []), (452, .iload_n 3, 453, []), (453, .iconst 3, 454, []), (454, .iadd, 455, []), (455, .iaload, 456, []), (456, .aload_n 0, 457, []), (457, .iload_n 3, 458, []), (458, .iconst 4, 459, []), (459, .iadd, 460, []), (460, .iaload, 461, []), (461, .invokevirtual 54, 464, [4, 6, 6, 100])],
  [(464, .if_icmp .eq 249, 467, [713]), (467, .iconst 0, 468, []), (468, .ireturn, 469, []), (469, .aload_n 1, 470, []), (470, .aload_n 0, 471, []), (471, .iload_n 3, 472, []), (472, .iconst 1, 473, []), (473, .iadd, 474, []), (474, .iaload, 475, []), (475, .aload_n 0, 476, []), (476, .iload_n 3, 477, []), (477, .iconst 2, 478, []), (478, .iadd, 479, []), (479, .iaload, 480, [])],
  [(480, .invokevirtual 55, 483, [2, 0, 0, 56]), (483, .aload_n 2, 484, []), (484, .aload_n 0, 485, []), (485, .iload_n 3, 486, []), (486, .iconst 1, 487, []), (487, .iadd, 488, []), (488, .iaload, 489, []), (489, .aload_n 0, 490, []), (490, .iload_n 3, 491, []), (491, .iconst 2, 492, []), (492, .iadd, 493, []), (493, .iaload, 494, []), (494, .invokevirtual 58, 497, [2, 6, 6, 103])],
  [(497, .if_icmp .eq 216, 500, [713]), (500, .iconst 0, 501, []), (501, .ireturn, 502, []), (502, .aload_n 1, 503, []), (503, .aload_n 0, 504, []), (504, .iload_n 3, 505, []), (505, .iconst 1, 506, []), (506, .iadd, 507, []), (507, .iaload, 508, []), (508, .aload_n 0, 509, []), (509, .iload_n 3, 510, []), (510, .iconst 2, 511, []), (511, .iadd, 512, [])],
  [(512, .iaload, 513, []), (513, .invokevirtual 59, 516, [2, 0, 0, 57]), (516, .aload_n 2, 517, []), (517, .aload_n 0, 518, []), (518, .iload_n 3, 519, []), (519, .iconst 1, 520, []), (520, .iadd, 521, []), (521, .iaload, 522, []), (522, .aload_n 0, 523, []), (523, .iload_n 3, 524, []), (524, .iconst 2, 525, []), (525, .iadd, 526, []), (526, .iaload, 527, []), (527, .invokevirtual 62, 530, [2, 6, 6, 104])],
  [(530, .if_icmp .eq 183, 533, [713]), (533, .iconst 0, 534, []), (534, .ireturn, 535, []), (535, .aload_n 1, 536, []), (536, .aload_n 0, 537, []), (537, .iload_n 3, 538, []), (538, .iconst 1, 539, []), (539, .iadd, 540, []), (540, .iaload, 541, []), (541, .aload_n 0, 542, []), (542, .iload_n 3, 543, []), (543, .iconst 2, 544, [])],
  [(544, .iadd, 545, []), (545, .iaload, 546, []), (546, .invokevirtual 63, 549, [2, 0, 0, 58]), (549, .aload_n 2, 550, []), (550, .aload_n 0, 551, []), (551, .iload_n 3, 552, []), (552, .iconst 1, 553, []), (553, .iadd, 554, []), (554, .iaload, 555, []), (555, .aload_n 0, 556, []), (556, .iload_n 3, 557, []), (557, .iconst 2, 558, []), (558, .iadd, 559, []), (559, .iaload, 560, [])],
  [(560, .invokevirtual 66, 563, [2, 6, 6, 105]), (563, .if_icmp .eq 150, 566, [713]), (566, .iconst 0, 567, []), (567, .ireturn, 568, []), (568, .aload_n 1, 569, []), (569, .aload_n 0, 570, []), (570, .iload_n 3, 571, []), (571, .iconst 1, 572, []), (572, .iadd, 573, []), (573, .iaload, 574, []), (574, .aload_n 0, 575, []), (575, .iload_n 3, 576, [])],
  [(576, .iconst 2, 577, []), (577, .iadd, 578, []), (578, .iaload, 579, []), (579, .aload_n 0, 580, []), (580, .iload_n 3, 581, []), (581, .iconst 3, 582, []), (582, .iadd, 583, []), (583, .iaload, 584, []), (584, .invokevirtual 67, 587, [3, 0, 0, 59]), (587, .aload_n 2, 588, []), (588, .aload_n 0, 589, []), (589, .iload_n 3, 590, []), (590, .iconst 1, 591, []), (591, .iadd, 592, [])],
  [(592, .iaload, 593, []), (593, .aload_n 0, 594, []), (594, .iload_n 3, 595, []), (595, .iconst 2, 596, []), (596, .iadd, 597, []), (597, .iaload, 598, []), (598, .aload_n 0, 599, []), (599, .iload_n 3, 600, []), (600, .iconst 3, 601, []), (601, .iadd, 602, []), (602, .iaload, 603, []), (603, .invokevirtual 70, 606, [3, 6, 6, 106]), (606, .if_icmp .eq 107, 609, [713])],
  [(609, .iconst 0, 610, []), (610, .ireturn, 611, []), (611, .aload_n 1, 612, []), (612, .aload_n 0, 613, []), (613, .iload_n 3, 614, []), (614, .iconst 1, 615, []), (615, .iadd, 616, []), (616, .iaload, 617, []), (617, .aload_n 0, 618, []), (618, .iload_n 3, 619, []), (619, .iconst 2, 620, []), (620, .iadd, 621, []), (621, .iaload, 622, []), (622, .aload_n 0, 623, []), (623, .iload_n 3, 624, [])],
  [(624, .iconst 3, 625, []), (625, .iadd, 626, []), (626, .iaload, 627, []), (627, .invokevirtual 71, 630, [3, 0, 0, 60]), (630, .aload_n 2, 631, []), (631, .aload_n 0, 632, []), (632, .iload_n 3, 633, []), (633, .iconst 1, 634, []), (634, .iadd, 635, []), (635, .iaload, 636, []), (636, .aload_n 0, 637, []), (637, .iload_n 3, 638, []), (638, .iconst 2, 639, []), (639, .iadd, 640, [])],
  [(640, .iaload, 641, []), (641, .aload_n 0, 642, []), (642, .iload_n 3, 643, []), (643, .iconst 3, 644, []), (644, .iadd, 645, []), (645, .iaload, 646, []), (646, .invokevirtual 74, 649, [3, 6, 6, 107]), (649, .if_icmp .eq 64, 652, [713]), (652, .iconst 0, 653, []), (653, .ireturn, 654, []), (654, .aload_n 1, 655, []), (655, .aload_n 0, 656, [])],
  [(656, .iload_n 3, 657, []), (657, .iconst 1, 658, []), (658, .iadd, 659, []), (659, .iaload, 660, []), (660, .aload_n 0, 661, []), (661, .iload_n 3, 662, []), (662, .iconst 2, 663, []), (663, .iadd, 664, []), (664, .iaload, 665, []), (665, .invokevirtual 75, 668, [2, 0, 0, 61]), (668, .aload_n 2, 669, []), (669, .aload_n 0, 670, []), (670, .iload_n 3, 671, []), (671, .iconst 1, 672, [])],
  [(672, .iadd, 673, []), (673, .iaload, 674, []), (674, .aload_n 0, 675, []), (675, .iload_n 3, 676, []), (676, .iconst 2, 677, []), (677, .iadd, 678, []), (678, .iaload, 679, []), (679, .invokevirtual 78, 682, [2, 6, 6, 108]), (682, .if_icmp .eq 31, 685, [713]), (685, .iconst 0, 686, []), (686, .ireturn, 687, []), (687, .aload_n 1, 688, [])],
  [(688, .invokevirtual 79, 691, [0, 0, 0, 62]), (691, .aload_n 2, 692, []), (692, .invokevirtual 83, 695, [0, 6, 6, 109]), (695, .if_icmp .eq 18, 698, [713]), (698, .iconst 0, 699, []), (699, .ireturn, 700, []), (700, .aload_n 1, 701, []), (701, .invokevirtual 84, 704, [0, 0, 0, 63])],
  [(704, .aload_n 2, 705, []), (705, .invokevirtual 88, 708, [0, 6, 6, 110]), (708, .if_icmp .eq 5, 711, [713]), (711, .iconst 0, 712, []), (712, .ireturn, 713, []), (713, .iinc 3 5, 716, []), (716, .goto (-698), 719, [18]), (719, .iconst 1, 720, [])],
  [(720, .ireturn, 721, [])]]
def pm_mL : pm_Mt := (⟨"PlatformDoorsLaw", "law", "([I)Z"⟩, code, 4, (some .boolean), pm_cL, 2)
def pm_MT : List pm_Mt := [pm_m0, pm_m1, pm_m2, pm_m3, pm_m4, pm_m5, pm_m6, pm_m7, pm_m8, pm_m9, pm_m10, pm_m11, pm_m12, pm_m13, pm_m14, pm_m15, pm_m16, pm_m17, pm_m18, pm_m19, pm_m20, pm_m21, pm_m22, pm_m23, pm_m24, pm_m25, pm_m26, pm_m27, pm_m28, pm_m29, pm_m30, pm_m31, pm_m32, pm_m33, pm_m34, pm_m35, pm_m36, pm_m37, pm_m38, pm_m39, pm_m40, pm_m41, pm_m42, pm_m43, pm_m44, pm_m45, pm_m46, pm_m47, pm_m48, pm_m49, pm_m50, pm_m51, pm_m52, pm_m53, pm_m54, pm_m55, pm_m56, pm_m57, pm_m58, pm_m59, pm_m60, pm_m61, pm_m62, pm_m63, pm_m64, pm_m65, pm_m66, pm_m67, pm_m68, pm_m69, pm_m70, pm_m71, pm_m72, pm_m73, pm_m74, pm_m75, pm_m76, pm_m77, pm_m78, pm_m79, pm_m80, pm_m81, pm_m82, pm_m83, pm_m84, pm_m85, pm_m86, pm_m87, pm_m88, pm_m89, pm_m90, pm_m91, pm_m92, pm_m93, pm_m94, pm_m95, pm_m96, pm_m97, pm_m98, pm_m99, pm_m100, pm_m101, pm_m102, pm_m103, pm_m104, pm_m105, pm_m106, pm_m107, pm_m108, pm_m109, pm_m110]
