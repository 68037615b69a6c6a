/-! The blocks of every method, written by our program out of the listing of the bytecode -/
def am_m0 : List (Nat × List am_I) := [(0, [.aload 0, .getstatic 65, .lload 1, .invokevirtual 2526404, .freturn])]
def am_m1 : List (Nat × List am_I) := [(0, [.aload 0, .getstatic 65, .invokevirtual 2542690, .ireturn])]
def am_m2 : List (Nat × List am_I) := [(0, [.aload 0, .iload 2, .invokevirtual 443460, .aload 0, .iload 3, .invokevirtual 443460, .iload 1, .ifCond .lt 19, .iload 1, .iconst 3, .if_icmp .le 27, .goto_w 19]),
  (19, [.new 1]),
  (27, [.aload 0, .getstatic 64, .iload 1, .iload 2, .iload 3, .invokevirtual 2115784, .istore 4, .iload 4, .iconst (-1), .if_icmp .ne 53, .new 2]),
  (53, [.iload 4, .ireturn])]
def am_m3 : List (Nat × List am_I) := [(0, [.aload 0, .getstatic 64, .invokevirtual 1984546, .ireturn])]
def am_m4 : List (Nat × List am_I) := [(0, [.aload 0, .iload 1, .invokevirtual 443460, .iload 2, .tableswitch 72 0 3 #[36, 45, 54, 63]]),
  (36, [.aload 0, .getstatic 64, .iload 1, .invokevirtual 2033732, .ireturn]),
  (45, [.aload 0, .getstatic 64, .iload 1, .invokevirtual 2066500, .ireturn]),
  (54, [.aload 0, .getstatic 64, .iload 1, .invokevirtual 2082884, .ireturn]),
  (63, [.aload 0, .getstatic 64, .iload 1, .invokevirtual 2099268, .ireturn]),
  (72, [.new 1])]
def am_m5 : List (Nat × List am_I) := [(0, [.aload 0, .iload 1, .invokevirtual 443460, .aload 0, .getstatic 66, .iload 1, .iload 2, .invokevirtual 2986086, .dreturn])]
def am_m6 : List (Nat × List am_I) := [(0, [.aload 0, .iload 1, .invokevirtual 443460, .aload 0, .getstatic 67, .invokevirtual 2659362, .iconst 8, .if_icmp .ge 42, .aload 0, .getstatic 64, .aload 0, .getstatic 67, .invokevirtual 2050180, .aload 0, .getstatic 64, .iload 1, .invokevirtual 2033732, .iadd, .iconst 8, .if_icmp .le 50, .goto_w 42]),
  (42, [.new 2]),
  (50, [.aload 0, .getstatic 67, .iload 1, .invokevirtual 2708580, .aload 0, .getstatic 67, .invokevirtual 2659362, .ireturn])]
def am_m7 : List (Nat × List am_I) := [(0, [.aload 0, .getstatic 67, .iload 1, .invokevirtual 2675780, .istore 2, .iload 2, .iconst (-1), .if_icmp .eq 23, .aload 0, .getstatic 67, .iload 2, .invokevirtual 2741348, .pop, .goto_w 23]),
  (23, [.iload 2, .ireturn])]
def am_m8 : List (Nat × List am_I) := [(0, [.aload 0, .getstatic 67, .iload 1, .invokevirtual 2675780, .ireturn])]
def am_m9 : List (Nat × List am_I) := [(0, [.aload 0, .iload 1, .invokevirtual 427076, .iload 2, .ifCond .lt 15, .iload 2, .iconst 8, .if_icmp .lt 23, .goto_w 15]),
  (15, [.new 1]),
  (23, [.aload 0, .iconst 0, .iconst 2, .iload 2, .imul, .invokevirtual 509030, .astore 3, .aload 3, .iconst 2, .iload 2, .imul, .invokevirtual 2708580, .aload 3, .iconst 2, .iload 2, .imul, .iconst 1, .iadd, .invokevirtual 2708580, .aload 0, .iload 1, .invokevirtual 541796, .ireturn])]
def am_m10 : List (Nat × List am_I) := [(0, [.aload 0, .iload 1, .invokevirtual 427076, .aload 0, .iconst 1, .iconst 16, .invokevirtual 509030, .astore 2, .aload 2, .iconst 16, .invokevirtual 2708580, .aload 0, .iload 1, .invokevirtual 541796, .ireturn])]
def am_m11 : List (Nat × List am_I) := [(0, [.aload 0, .iload 1, .invokevirtual 427076, .aload 0, .iconst 2, .iconst 19, .invokevirtual 509030, .astore 2, .aload 2, .aload 0, .getstatic 67, .invokevirtual 2806852, .aload 2, .iconst 19, .invokevirtual 2708580, .aload 0, .iload 1, .invokevirtual 541796, .ireturn])]
def am_m12 : List (Nat × List am_I) := [(0, [.aload 0, .iload 1, .invokevirtual 427076, .aload 0, .iload 1, .invokevirtual 476228, .astore 2, .aload 0, .iconst 3, .iconst 17, .invokevirtual 509030, .astore 3, .aload 3, .aload 2, .invokevirtual 2284578, .invokevirtual 2806852, .aload 3, .iconst 17, .invokevirtual 2708580, .aload 0, .getstatic 70, .aload 2, .invokevirtual 2464836, .aload 0, .iload 1, .invokevirtual 541796, .ireturn])]
def am_m13 : List (Nat × List am_I) := [(0, [.aload 0, .iload 1, .invokevirtual 427076, .aload 0, .iload 2, .iconst 1, .invokevirtual 459878, .aload 0, .iload 1, .invokevirtual 476228, .astore 3, .aload 0, .iconst 4, .iload 2, .invokevirtual 509030, .astore 4, .aload 4, .aload 3, .invokevirtual 2284578, .aload 0, .getstatic 64, .iload 2, .invokevirtual 2082884, .invokevirtual 2823334, .ifCond .eq 61, .aload 4, .aload 0, .getstatic 64, .iload 2, .invokevirtual 2099268, .invokevirtual 2741348, .ifCond .ne 69, .goto_w 61]),
  (61, [.new 2]),
  (69, [.aload 4, .iload 2, .invokevirtual 2708580, .aload 0, .getstatic 70, .aload 3, .invokevirtual 2464836, .aload 0, .iload 1, .invokevirtual 541796, .ireturn])]
def am_m14 : List (Nat × List am_I) := [(0, [.aload 0, .iload 1, .invokevirtual 427076, .aload 0, .iload 2, .iconst 2, .invokevirtual 459878, .aload 0, .iload 1, .invokevirtual 476228, .astore 4, .aload 0, .iload 3, .ifCond .eq 28, .iconst 7, .goto 30]),
  (28, [.iconst 6, .goto_w 30]),
  (30, [.iload 2, .invokevirtual 509030, .astore 5, .aload 5, .aload 4, .invokevirtual 2284578, .iload 3, .ifCond .eq 58, .aload 0, .getstatic 64, .iload 2, .invokevirtual 2099268, .goto 66]),
  (58, [.aload 0, .getstatic 64, .iload 2, .invokevirtual 2082884, .goto_w 66]),
  (66, [.invokevirtual 2823334, .ifCond .ne 80, .new 2]),
  (80, [.aload 5, .iload 2, .invokevirtual 2708580, .aload 0, .getstatic 70, .aload 4, .invokevirtual 2464836, .aload 0, .iload 1, .invokevirtual 541796, .ireturn])]
def am_m15 : List (Nat × List am_I) := [(0, [.aload 0, .iload 1, .invokevirtual 427076, .aload 0, .iload 2, .invokevirtual 427076, .aload 0, .iload 3, .iconst 3, .invokevirtual 459878, .aload 0, .iload 1, .aload 0, .getstatic 64, .iload 3, .invokevirtual 2082884, .iload 2, .aload 0, .getstatic 64, .iload 3, .invokevirtual 2099268, .iconst 5, .iload 3, .invokevirtual 525646, .astore 4, .aload 4, .aload 0, .getstatic 68, .invokevirtual 2839652, .ifCond .ne 62, .new 2]),
  (62, [.aload 4, .iload 3, .invokevirtual 2708580, .aload 0, .iload 1, .invokevirtual 541796, .ireturn])]
def am_m16 : List (Nat × List am_I) := [(0, [.aload 0, .iload 1, .invokevirtual 427076, .aload 0, .iload 2, .invokevirtual 427076, .aload 0, .iload 3, .iconst 0, .invokevirtual 459878, .aload 0, .iload 1, .aload 0, .getstatic 64, .iload 3, .invokevirtual 2082884, .iload 2, .aload 0, .getstatic 64, .iload 3, .invokevirtual 2099268, .iconst 8, .iload 3, .invokevirtual 525646, .astore 4, .aload 4, .aload 0, .getstatic 68, .invokevirtual 2724964, .aload 4, .iload 3, .invokevirtual 2708580, .aload 0, .iload 1, .invokevirtual 541796, .ireturn])]
def am_m17 : List (Nat × List am_I) := [(0, [.aload 0, .iload 1, .invokevirtual 427076, .aload 0, .iload 2, .invokevirtual 427076, .aload 0, .iload 3, .invokevirtual 443460, .aload 0, .iload 1, .iload 3, .iload 2, .iload 3, .iconst 1, .ixor, .iconst 9, .iload 3, .invokevirtual 525646, .astore 4, .aload 4, .aload 0, .getstatic 68, .invokevirtual 2724964, .aload 0, .iload 1, .invokevirtual 541796, .ireturn])]
def am_m18 : List (Nat × List am_I) := [(0, [.aload 0, .iload 1, .invokevirtual 427076, .aload 0, .getstatic 69, .iload 1, .aaload, .invokevirtual 2235426, .istore 2, .aload 0, .getstatic 69, .iload 1, .aaload, .invokevirtual 2382882, .iload 2, .ireturn])]
def am_m19 : List (Nat × List am_I) := [(0, [.aload 0, .iload 1, .invokevirtual 427076, .aload 0, .getstatic 71, .aload 0, .getstatic 67, .invokevirtual 1826916, .ifCond .ne 21, .iconst 0, .freturn]),
  (21, [.aload 0, .getstatic 69, .iload 1, .aaload, .aload 0, .getstatic 70, .invokevirtual 2481220, .iconst 1, .freturn])]
def am_m20 : List (Nat × List am_I) := [(0, [.aload 0, .iload 1, .invokevirtual 427076, .aload 0, .getstatic 72, .aload 0, .iload 1, .invokevirtual 476228, .invokevirtual 2861124, .aload 0, .getstatic 72, .invokevirtual 2893922, .ifCond .ne 29, .iconst (-1), .ireturn]),
  (29, [.aload 0, .iload 1, .invokevirtual 558148, .ireturn])]
def am_m21 : List (Nat × List am_I) := [(0, [.aload 0, .iload 1, .invokevirtual 427076, .aload 0, .getstatic 72, .aload 0, .iload 1, .invokevirtual 476228, .invokevirtual 2861124, .iconst 0, .istore 2, .goto_w 19]),
  (19, [.iload 2, .iconst 300, .if_icmp .ge 55, .aload 0, .getstatic 72, .invokevirtual 2877474, .invokevirtual 2251810, .ifCond .ne 55, .aload 0, .getstatic 72, .invokevirtual 2893922, .ifCond .eq 55, .iinc 2 1, .goto 19]),
  (55, [.aload 0, .getstatic 72, .invokevirtual 2877474, .invokevirtual 2350178, .ifCond .le 76, .new 3]),
  (76, [.aload 0, .iload 1, .invokevirtual 558148, .pop, .iload 2, .ireturn])]
def am_m22 : List (Nat × List am_I) := [(0, [.aload 0, .iload 1, .invokevirtual 427076, .aload 0, .getstatic 69, .iload 1, .aaload, .invokevirtual 2235426, .ireturn])]
def am_m23 : List (Nat × List am_I) := [(0, [.aload 0, .iload 1, .invokevirtual 427076, .aload 0, .getstatic 69, .iload 1, .aaload, .invokevirtual 2350178, .ireturn])]
def am_m24 : List (Nat × List am_I) := [(0, [.aload 0, .iload 1, .invokevirtual 427076, .iload 3, .ifCond .lt 14, .iload 3, .iconst 3, .if_icmp .le 22, .goto_w 14]),
  (14, [.new 1]),
  (22, [.aload 0, .iload 1, .iload 2, .invokevirtual 492646, .astore 4, .iload 3, .tableswitch 77 0 2 #[56, 62, 68]]),
  (56, [.aload 4, .invokeinterface 6 1, .ireturn]),
  (62, [.aload 4, .invokeinterface 6 2, .ireturn]),
  (68, [.aload 4, .getstatic 384, .invokevirtual 2659362, .ireturn]),
  (77, [.aload 4, .invokeinterface 6 3, .ireturn])]
def am_m25 : List (Nat × List am_I) := [(0, [.aload 0, .iload 1, .invokevirtual 427076, .aload 0, .iload 1, .iload 2, .invokevirtual 492646, .getstatic 384, .iload 3, .invokevirtual 2675780, .ireturn])]
def am_m26 : List (Nat × List am_I) := [(0, [.iload 1, .ifCond .lt 9, .iload 1, .iconst 4, .if_icmp .lt 17, .goto_w 9]),
  (9, [.new 1]),
  (17, [.return_])]
def am_m27 : List (Nat × List am_I) := [(0, [.aload 0, .getstatic 64, .iload 1, .invokevirtual 2000964, .ifCond .ne 19, .new 1]),
  (19, [.return_])]
def am_m28 : List (Nat × List am_I) := [(0, [.aload 0, .getstatic 64, .iload 1, .invokevirtual 2000964, .ifCond .eq 23, .aload 0, .getstatic 64, .iload 1, .invokevirtual 2066500, .iload 2, .if_icmp .eq 31, .goto_w 23]),
  (23, [.new 1]),
  (31, [.return_])]
def am_m29 : List (Nat × List am_I) := [(0, [.aload 0, .getstatic 69, .iload 1, .aaload, .invokevirtual 2235426, .ifCond .ne 20, .new 2]),
  (20, [.aload 0, .getstatic 69, .iload 1, .aaload, .areturn])]
def am_m30 : List (Nat × List am_I) := [(0, [.iload 2, .ifCond .lt 17, .iload 2, .aload 0, .getstatic 69, .iload 1, .aaload, .invokevirtual 2235426, .if_icmp .lt 25, .goto_w 17]),
  (17, [.new 4]),
  (25, [.aload 0, .getstatic 69, .iload 1, .aaload, .iload 2, .invokevirtual 2268228, .areturn])]
def am_m31 : List (Nat × List am_I) := [(0, [.aload 0, .getstatic 70, .invokevirtual 2382882, .aload 0, .getstatic 70, .aload 0, .getstatic 70, .iload 1, .iload 2, .invokevirtual 2415750, .invokevirtual 2268228, .getstatic 384, .areturn])]
def am_m32 : List (Nat × List am_I) := [(0, [.aload 0, .iload 1, .invokevirtual 476228, .astore 7, .aload 0, .iload 3, .invokevirtual 476228, .astore 8, .aload 0, .iload 5, .iload 6, .invokevirtual 509030, .astore 9, .aload 9, .aload 7, .invokevirtual 2284578, .iload 2, .invokevirtual 2823334, .ifCond .eq 55, .aload 0, .getstatic 68, .aload 8, .invokevirtual 2284578, .iload 4, .invokevirtual 2823334, .ifCond .ne 63, .goto_w 55]),
  (55, [.new 2]),
  (63, [.aload 0, .getstatic 70, .aload 7, .invokevirtual 2464836, .aload 0, .getstatic 70, .aload 8, .invokevirtual 2464836, .aload 9, .areturn])]
def am_m33 : List (Nat × List am_I) := [(0, [.aload 0, .getstatic 70, .invokevirtual 2284578, .astore 2, .aload 0, .getstatic 70, .invokevirtual 2251810, .ifCond .ne 40, .aload 2, .invokevirtual 2659362, .iconst 8, .if_icmp .gt 40, .aload 0, .getstatic 64, .aload 2, .invokevirtual 2050180, .iconst 12, .if_icmp .le 48, .goto_w 40]),
  (40, [.new 3]),
  (48, [.aload 0, .getstatic 70, .iconst 0, .invokevirtual 2432068, .aload 0, .getstatic 69, .iload 1, .aaload, .aload 0, .getstatic 70, .invokevirtual 2481220, .aload 0, .getstatic 69, .iload 1, .aaload, .invokevirtual 2235426, .ireturn])]
def am_m34 : List (Nat × List am_I) := [(0, [.aload 0, .getstatic 72, .invokevirtual 2877474, .invokevirtual 2251810, .ifCond .eq 21, .new 3]),
  (21, [.aload 0, .getstatic 69, .iload 1, .aaload, .aload 0, .getstatic 72, .invokevirtual 2877474, .invokevirtual 2481220, .aload 0, .getstatic 69, .iload 1, .aaload, .invokevirtual 2350178, .ireturn])]
def am_m35 : List (Nat × List am_I) := [(0, [.aload 0, .invokeinterface 11 0, .ireturn])]
def am_m36 : List (Nat × List am_I) := [(0, [.aload 0, .iload 1, .ifCond .eq 9, .iconst 1, .goto 18]),
  (9, [.iload 2, .ifCond .eq 17, .iconst 2, .goto 18]),
  (17, [.iconst 0, .goto_w 18]),
  (18, [.multianewarray 11 0, .aload 0, .invokeinterface 11 0, .ifCond .ne 32, .iconst 1, .goto 33]),
  (32, [.iconst 0, .goto_w 33]),
  (33, [.freturn])]
def am_m37 : List (Nat × List am_I) := [(0, [.iload 1, .ifCond .lt 21, .iload 1, .iconst 20, .iconst 2, .aload 0, .invokeinterface 11 1, .imul, .iadd, .if_icmp .ge 21, .iconst 1, .goto 22]),
  (21, [.iconst 0, .goto_w 22]),
  (22, [.freturn])]
def am_m38 : List (Nat × List am_I) := [(0, [.iload 1, .iconst 20, .if_icmp .ge 10, .iconst 1, .goto 21]),
  (10, [.aload 0, .getstatic 709, .iload 1, .iconst 20, .isub, .iconst 2, .idiv, .iaload, .goto_w 21]),
  (21, [.ireturn])]
def am_m39 : List (Nat × List am_I) := [(0, [.iload 1, .iconst 20, .if_icmp .ge 8, .iconst (-1), .ireturn]),
  (8, [.aload 0, .getstatic 706, .iload 1, .iconst 20, .isub, .iconst 2, .idiv, .baload, .ifCond .eq 26, .iconst 2, .goto 27]),
  (26, [.iconst 0, .goto_w 27]),
  (27, [.istore 2, .iload 1, .iconst 2, .irem, .ifCond .ne 38, .iload 2, .goto 41]),
  (38, [.iload 2, .iconst 1, .iadd, .goto_w 41]),
  (41, [.ireturn])]
def am_m40 : List (Nat × List am_I) := [(0, [.iload 1, .iconst 2, .irem, .ifCond .ne 12, .iload 1, .iconst 1, .iadd, .goto 15]),
  (12, [.iload 1, .iconst 1, .isub, .goto_w 15]),
  (15, [.ireturn])]
def am_m41 : List (Nat × List am_I) := [(0, [.aload 0, .getstatic 707, .iload 1, .iconst 20, .isub, .iconst 2, .idiv, .iaload, .istore 2, .iload 1, .iconst 2, .irem, .ifCond .ne 22, .iload 2, .goto 27]),
  (22, [.aload 0, .iload 2, .invokevirtual 666692, .goto_w 27]),
  (27, [.ireturn])]
def am_m42 : List (Nat × List am_I) := [(0, [.aload 0, .getstatic 708, .iload 1, .iconst 20, .isub, .iconst 2, .idiv, .iaload, .istore 2, .iload 1, .iconst 2, .irem, .ifCond .ne 22, .iload 2, .goto 27]),
  (22, [.aload 0, .iload 2, .invokevirtual 666692, .goto_w 27]),
  (27, [.ireturn])]
def am_m43 : List (Nat × List am_I) := [(0, [.iload 1, .iconst 1, .if_icmp .eq 10, .iload 1, .iconst 3, .if_icmp .ne 14, .goto_w 10]),
  (10, [.iconst 1, .goto 15]),
  (14, [.iconst 0, .goto_w 15]),
  (15, [.istore 4, .iload 4, .ifCond .eq 30, .aload 0, .iload 2, .invokevirtual 666692, .goto 31]),
  (30, [.iload 2, .goto_w 31]),
  (31, [.istore 5, .iload 4, .ifCond .eq 46, .aload 0, .iload 3, .invokevirtual 666692, .goto 47]),
  (46, [.iload 3, .goto_w 47]),
  (47, [.istore 6, .iload 1, .iconst 2, .if_icmp .eq 59, .iload 1, .iconst 3, .if_icmp .ne 63, .goto_w 59]),
  (59, [.iconst 1, .goto 64]),
  (63, [.iconst 0, .goto_w 64]),
  (64, [.istore 7, .iconst 0, .istore 8, .goto_w 69]),
  (69, [.iload 8, .aload 0, .invokeinterface 11 1, .if_icmp .ge 120, .aload 0, .getstatic 706, .iload 8, .baload, .iload 7, .if_icmp .ne 114, .aload 0, .getstatic 707, .iload 8, .iaload, .iload 5, .if_icmp .ne 114, .aload 0, .getstatic 708, .iload 8, .iaload, .iload 6, .if_icmp .eq 120, .goto_w 114]),
  (114, [.iinc 8 1, .goto 69]),
  (120, [.iload 8, .aload 0, .invokeinterface 11 1, .if_icmp .ne 211, .aload 0, .invokeinterface 11 1, .iconst 30, .if_icmp .eq 154, .aload 0, .iload 2, .invokevirtual 633924, .aload 0, .iload 3, .invokevirtual 633924, .iadd, .iconst 8, .if_icmp .le 156, .goto_w 154]),
  (154, [.iconst (-1), .ireturn]),
  (156, [.aload 0, .getstatic 706, .iload 8, .iload 7, .bastore, .aload 0, .getstatic 707, .iload 8, .iload 5, .iastore, .aload 0, .getstatic 708, .iload 8, .iload 6, .iastore, .aload 0, .getstatic 709, .iload 8, .aload 0, .iload 2, .invokevirtual 633924, .aload 0, .iload 3, .invokevirtual 633924, .iadd, .iastore, .aload 0, .dup, .invokeinterface 11 1, .iconst 1, .iadd, .multianewarray 11 1, .goto_w 211]),
  (211, [.iconst 20, .iconst 2, .iload 8, .imul, .iadd, .iload 4, .ifCond .eq 227, .iconst 1, .goto 228]),
  (227, [.iconst 0, .goto_w 228]),
  (228, [.iadd, .ireturn])]
def am_m44 : List (Nat × List am_I) := [(0, [.aload 0, .iload 1, .ifCond .lt 26, .iload 1, .iconst 3, .if_icmp .gt 26, .aload 0, .iload 2, .invokevirtual 617540, .ifCond .eq 26, .aload 0, .iload 3, .invokevirtual 617540, .ifCond .ne 30, .goto_w 26]),
  (26, [.iconst 1, .goto 31]),
  (30, [.iconst 0, .goto_w 31]),
  (31, [.iconst 0, .invokevirtual 601190, .ifCond .ne 40, .iconst 0, .ireturn]),
  (40, [.aload 0, .iload 1, .iload 2, .iload 3, .invokevirtual 716072, .istore 4, .aload 0, .iconst 0, .iload 4, .ifCond .ge 60, .iconst 1, .goto 61]),
  (60, [.iconst 0, .goto_w 61]),
  (61, [.invokevirtual 601190, .ifCond .eq 72, .iload 4, .goto 73]),
  (72, [.iconst 0, .goto_w 73]),
  (73, [.ireturn])]
def am_m45 : List (Nat × List am_I) := [(0, [.aload 0, .iconst 0, .multianewarray 11 0, .iconst 20, .iconst 2, .aload 0, .invokeinterface 11 1, .imul, .iadd, .ireturn])]
def am_m46 : List (Nat × List am_I) := [(0, [.aload 0, .aload 0, .iload 1, .invokevirtual 617540, .ifCond .eq 18, .iload 2, .ifCond .lt 18, .iload 2, .iconst 3, .if_icmp .le 22, .goto_w 18]),
  (18, [.iconst 1, .goto 23]),
  (22, [.iconst 0, .goto_w 23]),
  (23, [.iconst 0, .invokevirtual 601190, .ifCond .ne 32, .iconst 0, .ireturn]),
  (32, [.iload 2, .ifCond .ne 42, .aload 0, .iload 1, .invokevirtual 633924, .ireturn]),
  (42, [.iload 1, .iconst 20, .if_icmp .ge 52, .iconst (-1), .goto 83]),
  (52, [.iload 2, .iconst 1, .if_icmp .ne 65, .aload 0, .iload 1, .invokevirtual 650340, .goto 83]),
  (65, [.iload 2, .iconst 2, .if_icmp .ne 78, .aload 0, .iload 1, .invokevirtual 683108, .goto 83]),
  (78, [.aload 0, .iload 1, .invokevirtual 699492, .goto_w 83]),
  (83, [.ireturn])]
def am_m47 : List (Nat × List am_I) := [(0, [.aload 0, .iconst 0, .multianewarray 11 0, .iconst 0, .istore 3, .iconst 1, .istore 4, .goto_w 10]),
  (10, [.iload 3, .iconst 8, .if_icmp .ge 76, .lload 1, .iconst 8, .iload 3, .imul, .lshr, .jsr_w 255, .land, .jsr_w 0, .lcmp, .ifCond .eq 76, .lload 1, .iconst 8, .iload 3, .imul, .lshr, .jsr_w 255, .land, .l2i, .istore 5, .iload 4, .ifCond .eq 67, .iload 5, .iconst 33, .if_icmp .lt 67, .iload 5, .iconst 126, .if_icmp .gt 67, .iconst 1, .goto 68]),
  (67, [.iconst 0, .goto_w 68]),
  (68, [.istore 4, .iinc 3 1, .goto 10]),
  (76, [.iload 4, .ifCond .eq 92, .aload 0, .invokeinterface 11 6, .iload 3, .iadd, .iconst 60, .if_icmp .le 94, .goto_w 92]),
  (92, [.iconst 0, .freturn]),
  (94, [.iconst 0, .istore 5, .goto_w 97]),
  (97, [.iload 5, .iload 3, .if_icmp .ge 133, .aload 0, .getstatic 711, .aload 0, .invokeinterface 11 6, .iload 5, .iadd, .lload 1, .iconst 8, .iload 5, .imul, .lshr, .jsr_w 255, .land, .l2i, .iastore, .iinc 5 1, .goto 97]),
  (133, [.aload 0, .aload 0, .invokeinterface 11 6, .iload 3, .iadd, .multianewarray 11 6, .iconst 1, .freturn])]
def am_m48 : List (Nat × List am_I) := [(0, [.iload 0, .iconst 97, .if_icmp .lt 19, .iload 0, .iconst 104, .if_icmp .gt 19, .iconst 2, .iload 0, .iconst 97, .isub, .imul, .ireturn]),
  (19, [.iload 0, .iconst 49, .if_icmp .ne 30, .iconst 16, .goto 64]),
  (30, [.iload 0, .iconst 70, .if_icmp .ne 41, .iconst 17, .goto 64]),
  (41, [.iload 0, .iconst 48, .if_icmp .ne 52, .iconst 18, .goto 64]),
  (52, [.iload 0, .iconst 84, .if_icmp .ne 63, .iconst 19, .goto 64]),
  (63, [.iconst (-1), .goto_w 64]),
  (64, [.ireturn])]
def am_m49 : List (Nat × List am_I) := [(0, [.iload 0, .iconst 42, .if_icmp .ne 10, .iconst 0, .goto 41]),
  (10, [.iload 0, .iconst 37, .if_icmp .ne 20, .iconst 1, .goto 41]),
  (20, [.iload 0, .iconst 43, .if_icmp .ne 30, .iconst 2, .goto 41]),
  (30, [.iload 0, .iconst 38, .if_icmp .ne 40, .iconst 3, .goto 41]),
  (40, [.iconst (-1), .goto_w 41]),
  (41, [.ireturn])]
def am_m50 : List (Nat × List am_I) := [(0, [.iconst 0, .istore 2, .iconst 0, .istore 3, .iconst 0, .istore 4, .iconst 0, .istore 5, .goto_w 10]),
  (10, [.iload 5, .aload 0, .invokeinterface 11 6, .if_icmp .ge 232, .aload 0, .getstatic 711, .iload 5, .iaload, .istore 6, .iload 4, .ifCond .ne 127, .iload 6, .iconst 126, .if_icmp .ne 47, .iconst 1, .iload 3, .isub, .istore 3, .goto 226]),
  (47, [.iload 6, .iconst 40, .if_icmp .ne 82, .iload 2, .iconst 8, .if_icmp .ge 82, .aload 0, .getstatic 712, .iload 2, .iload 3, .iastore, .aload 0, .getstatic 715, .iload 2, .iconst 0, .bastore, .iinc 2 1, .iconst 0, .istore 3, .goto 226]),
  (82, [.iload 6, .invokestatic 786466, .ifCond .lt 124, .aload 0, .iload 3, .iconst 1, .if_icmp .ne 108, .aload 0, .iload 6, .invokestatic 786466, .invokevirtual 666692, .goto 113]),
  (108, [.iload 6, .invokestatic 786466, .goto_w 113]),
  (113, [.multianewarray 11 12, .iconst 0, .istore 3, .iconst 1, .istore 4, .goto 226]),
  (124, [.iload 5, .ireturn]),
  (127, [.iload 2, .ifCond .ne 134, .iload 5, .ireturn]),
  (134, [.aload 0, .getstatic 715, .iload 2, .iconst 1, .isub, .baload, .ifCond .ne 196, .iload 6, .invokestatic 802850, .ifCond .ge 156, .iload 5, .ireturn]),
  (156, [.aload 0, .getstatic 713, .iload 2, .iconst 1, .isub, .aload 0, .invokeinterface 11 12, .iastore, .aload 0, .getstatic 714, .iload 2, .iconst 1, .isub, .iload 6, .invokestatic 802850, .iastore, .aload 0, .getstatic 715, .iload 2, .iconst 1, .isub, .iconst 1, .bastore, .iconst 0, .istore 4, .goto 226]),
  (196, [.iload 6, .iconst 41, .if_icmp .eq 206, .iload 5, .ireturn]),
  (206, [.iinc 2 (-1), .aload 0, .iload 1, .ifCond .eq 222, .aload 0, .iload 2, .invokevirtual 846948, .goto 223]),
  (222, [.iconst 0, .goto_w 223]),
  (223, [.multianewarray 11 12, .goto_w 226]),
  (226, [.iinc 5 1, .goto 10]),
  (232, [.iload 4, .ifCond .eq 245, .iload 2, .ifCond .ne 245, .iconst (-1), .goto 249]),
  (245, [.aload 0, .invokeinterface 11 6, .goto_w 249]),
  (249, [.ireturn])]
def am_m51 : List (Nat × List am_I) := [(0, [.aload 0, .invokeinterface 11 12, .ifCond .lt 16, .aload 0, .getstatic 713, .iload 1, .iaload, .ifCond .ge 18, .goto_w 16]),
  (16, [.iconst (-1), .ireturn]),
  (18, [.aload 0, .aload 0, .getstatic 714, .iload 1, .iaload, .aload 0, .getstatic 713, .iload 1, .iaload, .aload 0, .invokeinterface 11 12, .invokevirtual 716072, .istore 2, .iload 2, .ifCond .lt 61, .aload 0, .getstatic 712, .iload 1, .iaload, .iconst 1, .if_icmp .ne 61, .aload 0, .iload 2, .invokevirtual 666692, .goto 62]),
  (61, [.iload 2, .goto_w 62]),
  (62, [.ireturn])]
def am_m52 : List (Nat × List am_I) := [(0, [.aload 0, .iconst 0, .multianewarray 11 0, .aload 0, .invokeinterface 11 1, .istore 1, .aload 0, .iconst 0, .invokevirtual 830692, .istore 2, .iload 2, .ifCond .ge 45, .aload 0, .iconst 1, .invokevirtual 830692, .istore 2, .aload 0, .aload 0, .invokeinterface 11 12, .ifCond .ge 38, .iload 1, .goto 42]),
  (38, [.aload 0, .invokeinterface 11 1, .goto_w 42]),
  (42, [.multianewarray 11 1, .goto_w 45]),
  (45, [.aload 0, .iconst 0, .multianewarray 11 6, .iload 2, .ifCond .lt 60, .iconst (-1), .iload 2, .isub, .goto 76]),
  (60, [.aload 0, .invokeinterface 11 12, .ifCond .ge 72, .iconst (-100), .goto 76]),
  (72, [.aload 0, .invokeinterface 11 12, .goto_w 76]),
  (76, [.ireturn])]
def am_m53 : List (Nat × List am_I) := [(0, [.aload 0, .getstatic 718, .aload 0, .invokeinterface 11 13, .iload 1, .iastore, .aload 0, .dup, .invokeinterface 11 13, .iconst 1, .iadd, .multianewarray 11 13, .return_])]
def am_m54 : List (Nat × List am_I) := [(0, [.aload 0, .iconst 0, .multianewarray 11 13, .iconst 1, .istore 2, .aload 0, .getstatic 719, .iconst 0, .iload 1, .iastore, .goto_w 14]),
  (14, [.iload 2, .ifCond .le 217, .iinc 2 (-1), .aload 0, .getstatic 719, .iload 2, .iaload, .istore 3, .iload 3, .ifCond .ge 41, .aload 0, .iload 3, .ineg, .invokevirtual 879684, .goto 214]),
  (41, [.iload 3, .iconst 20, .if_icmp .lt 143, .aload 0, .iload 3, .invokevirtual 650340, .istore 4, .aload 0, .getstatic 719, .iload 2, .iconst (-41), .iastore, .aload 0, .getstatic 719, .iload 2, .iconst 1, .iadd, .aload 0, .iload 3, .invokevirtual 699492, .iastore, .aload 0, .getstatic 719, .iload 2, .iconst 2, .iadd, .iload 4, .ifCond .ne 92, .iconst (-42), .goto 116]),
  (92, [.iload 4, .iconst 1, .if_icmp .ne 103, .iconst (-37), .goto 116]),
  (103, [.iload 4, .iconst 2, .if_icmp .ne 114, .iconst (-43), .goto 116]),
  (114, [.iconst (-38), .goto_w 116]),
  (116, [.iastore, .aload 0, .getstatic 719, .iload 2, .iconst 3, .iadd, .aload 0, .iload 3, .invokevirtual 683108, .iastore, .iload 2, .iconst 4, .iadd, .istore 2, .aload 0, .iconst 40, .invokevirtual 879684, .goto 214]),
  (143, [.iload 3, .iconst 16, .if_icmp .lt 191, .aload 0, .iload 3, .iconst 16, .if_icmp .ne 161, .iconst 49, .goto 185]),
  (161, [.iload 3, .iconst 17, .if_icmp .ne 172, .iconst 70, .goto 185]),
  (172, [.iload 3, .iconst 18, .if_icmp .ne 183, .iconst 48, .goto 185]),
  (183, [.iconst 84, .goto_w 185]),
  (185, [.invokevirtual 879684, .goto 214]),
  (191, [.iload 3, .iconst 2, .irem, .iconst 1, .if_icmp .ne 204, .aload 0, .iconst 126, .invokevirtual 879684, .goto_w 204]),
  (204, [.aload 0, .iconst 97, .iload 3, .iconst 2, .idiv, .iadd, .invokevirtual 879684, .goto_w 214]),
  (214, [.goto 14]),
  (217, [.return_])]
def am_m55 : List (Nat × List am_I) := [(0, [.aload 0, .aload 0, .iload 1, .invokevirtual 617540, .ifCond .ne 13, .iconst 1, .goto 14]),
  (13, [.iconst 0, .goto_w 14]),
  (14, [.iconst 0, .invokevirtual 601190, .ifCond .ne 23, .iconst 0, .dreturn]),
  (23, [.aload 0, .iload 1, .invokevirtual 896164, .iload 2, .ifCond .lt 50, .iload 2, .aload 0, .invokeinterface 11 13, .if_icmp .ge 50, .aload 0, .getstatic 718, .iload 2, .iaload, .i2c, .goto 51]),
  (50, [.iconst 0, .goto_w 51]),
  (51, [.dreturn])]
def am_m56 : List (Nat × List am_I) := [(0, [.aload 0, .invokeinterface 11 32, .istore 2, .goto_w 5]),
  (5, [.iload 2, .ifCond .le 41, .aload 0, .getstatic 737, .iload 2, .iconst 1, .isub, .iaload, .iload 1, .if_icmp .le 41, .aload 0, .getstatic 737, .iload 2, .aload 0, .getstatic 737, .iload 2, .iconst 1, .isub, .iaload, .iastore, .iinc 2 (-1), .goto 5]),
  (41, [.aload 0, .getstatic 737, .iload 2, .iload 1, .iastore, .aload 0, .dup, .invokeinterface 11 32, .iconst 1, .iadd, .multianewarray 11 32, .return_])]
def am_m57 : List (Nat × List am_I) := [(0, [.iconst 0, .istore 2, .goto_w 2]),
  (2, [.iload 2, .aload 0, .invokeinterface 11 32, .if_icmp .ge 26, .aload 0, .getstatic 737, .iload 2, .iaload, .iload 1, .if_icmp .eq 26, .iinc 2 1, .goto 2]),
  (26, [.iload 2, .aload 0, .invokeinterface 11 32, .if_icmp .ge 38, .iload 2, .goto 39]),
  (38, [.iconst (-1), .goto_w 39]),
  (39, [.ireturn])]
def am_m58 : List (Nat × List am_I) := [(0, [.aload 0, .iload 1, .invokevirtual 945252, .istore 2, .aload 0, .dup, .invokeinterface 11 32, .iconst 1, .isub, .multianewarray 11 32, .iload 2, .istore 3, .goto_w 18]),
  (18, [.iload 3, .aload 0, .invokeinterface 11 32, .if_icmp .ge 46, .aload 0, .getstatic 737, .iload 3, .aload 0, .getstatic 737, .iload 3, .iconst 1, .iadd, .iaload, .iastore, .iinc 3 1, .goto 18]),
  (46, [.return_])]
def am_m59 : List (Nat × List am_I) := [(0, [.iconst 0, .istore 1, .iconst 0, .istore 2, .goto_w 4]),
  (4, [.iload 2, .aload 0, .invokeinterface 11 32, .if_icmp .ge 31, .iload 1, .aload 0, .aload 0, .getstatic 737, .iload 2, .iaload, .invokevirtual 633924, .iadd, .istore 1, .iinc 2 1, .goto 4]),
  (31, [.iload 1, .ireturn])]
def am_m60 : List (Nat × List am_I) := [(0, [.aload 0, .aload 0, .getstatic 728, .iload 1, .iaload, .multianewarray 11 32, .iconst 0, .istore 2, .goto_w 12]),
  (12, [.iload 2, .aload 0, .invokeinterface 11 32, .if_icmp .ge 43, .aload 0, .getstatic 737, .iload 2, .aload 0, .getstatic 729, .iconst 24, .iload 1, .imul, .iload 2, .iadd, .iaload, .iastore, .iinc 2 1, .goto 12]),
  (43, [.return_])]
def am_m61 : List (Nat × List am_I) := [(0, [.iconst 0, .istore 3, .iconst 0, .istore 4, .goto_w 5]),
  (5, [.iload 4, .aload 0, .getstatic 728, .iload 1, .iaload, .if_icmp .ge 57, .aload 0, .getstatic 729, .iconst 24, .iload 1, .imul, .iload 4, .iadd, .iaload, .istore 5, .iload 5, .iload 2, .if_icmp .ne 45, .iload 3, .ifCond .ne 45, .iconst 1, .istore 3, .goto 51]),
  (45, [.aload 0, .iload 5, .invokevirtual 928868, .goto_w 51]),
  (51, [.iinc 4 1, .goto 5]),
  (57, [.return_])]
def am_m62 : List (Nat × List am_I) := [(0, [.aload 0, .aload 0, .invokeinterface 11 16, .multianewarray 11 32, .iconst 0, .istore 1, .goto_w 10]),
  (10, [.iload 1, .aload 0, .invokeinterface 11 32, .if_icmp .ge 36, .aload 0, .getstatic 737, .iload 1, .aload 0, .getstatic 721, .iload 1, .iaload, .iastore, .iinc 1 1, .goto 10]),
  (36, [.return_])]
def am_m63 : List (Nat × List am_I) := [(0, [.aload 0, .aload 0, .invokeinterface 11 32, .multianewarray 11 16, .iconst 0, .istore 1, .goto_w 10]),
  (10, [.iload 1, .aload 0, .invokeinterface 11 32, .if_icmp .ge 36, .aload 0, .getstatic 721, .iload 1, .aload 0, .getstatic 737, .iload 1, .iaload, .iastore, .iinc 1 1, .goto 10]),
  (36, [.return_])]
def am_m64 : List (Nat × List am_I) := [(0, [.aload 0, .aload 0, .iload 1, .invokevirtual 617540, .ifCond .ne 13, .iconst 1, .goto 14]),
  (13, [.iconst 0, .goto_w 14]),
  (14, [.iconst 0, .invokevirtual 601190, .ifCond .ne 23, .iconst 0, .ireturn]),
  (23, [.aload 0, .invokevirtual 1027138, .aload 0, .iconst 0, .aload 0, .invokeinterface 11 16, .iconst 8, .if_icmp .eq 53, .aload 0, .invokevirtual 978018, .aload 0, .iload 1, .invokevirtual 633924, .iadd, .iconst 8, .if_icmp .le 57, .goto_w 53]),
  (53, [.iconst 1, .goto 58]),
  (57, [.iconst 0, .goto_w 58]),
  (58, [.invokevirtual 601190, .ifCond .ne 66, .iconst 0, .ireturn]),
  (66, [.aload 0, .iload 1, .invokevirtual 928868, .aload 0, .invokevirtual 1043522, .aload 0, .invokeinterface 11 16, .ireturn])]
def am_m65 : List (Nat × List am_I) := [(0, [.aload 0, .iconst 0, .multianewarray 11 0, .iload 1, .ifCond .lt 17, .iload 1, .aload 0, .invokeinterface 11 16, .if_icmp .lt 19, .goto_w 17]),
  (17, [.iconst (-1), .ireturn]),
  (19, [.aload 0, .getstatic 721, .iload 1, .iaload, .istore 2, .aload 0, .invokevirtual 1027138, .aload 0, .iload 2, .invokevirtual 961668, .aload 0, .invokevirtual 1043522, .iload 2, .ireturn])]
def am_m66 : List (Nat × List am_I) := [(0, [.aload 0, .iconst 0, .multianewarray 11 0, .iload 1, .ifCond .lt 26, .iload 1, .aload 0, .invokeinterface 11 16, .if_icmp .ge 26, .aload 0, .getstatic 721, .iload 1, .iaload, .goto 27]),
  (26, [.iconst (-1), .goto_w 27]),
  (27, [.ireturn])]
def am_m67 : List (Nat × List am_I) := [(0, [.iload 1, .ifCond .ge 8, .iconst 0, .goto 14]),
  (8, [.aload 0, .getstatic 726, .iload 1, .iaload, .goto_w 14]),
  (14, [.ireturn])]
def am_m68 : List (Nat × List am_I) := [(0, [.iload 1, .ifCond .ge 8, .iconst 0, .goto 14]),
  (8, [.aload 0, .getstatic 727, .iload 1, .iaload, .goto_w 14]),
  (14, [.ireturn])]
def am_m69 : List (Nat × List am_I) := [(0, [.iconst 0, .istore 1, .goto_w 2]),
  (2, [.iload 1, .iconst 640, .if_icmp .ge 22, .aload 0, .getstatic 730, .iload 1, .iconst 0, .bastore, .iinc 1 1, .goto 2]),
  (22, [.iconst 0, .istore 1, .goto_w 24]),
  (24, [.iload 1, .iconst 5, .if_icmp .ge 187, .iconst 0, .istore 2, .aload 0, .getstatic 733, .iload 1, .iaload, .ifCond .lt 80, .aload 0, .getstatic 730, .aload 0, .getstatic 733, .iload 1, .iaload, .baload, .ifCond .ne 80, .aload 0, .getstatic 730, .aload 0, .getstatic 733, .iload 1, .iaload, .iconst 1, .bastore, .aload 0, .getstatic 731, .iconst 0, .aload 0, .getstatic 733, .iload 1, .iaload, .iastore, .iconst 1, .istore 2, .goto_w 80]),
  (80, [.iload 2, .ifCond .le 181, .iinc 2 (-1), .aload 0, .getstatic 731, .iload 2, .iaload, .istore 3, .aload 0, .getstatic 724, .iload 3, .iaload, .istore 4, .iload 4, .ifCond .lt 136, .aload 0, .getstatic 730, .iload 4, .baload, .ifCond .ne 136, .aload 0, .getstatic 730, .iload 4, .iconst 1, .bastore, .aload 0, .getstatic 731, .iload 2, .iload 4, .iastore, .iinc 2 1, .goto_w 136]),
  (136, [.aload 0, .getstatic 725, .iload 3, .iaload, .istore 5, .iload 5, .ifCond .lt 178, .aload 0, .getstatic 730, .iload 5, .baload, .ifCond .ne 178, .aload 0, .getstatic 730, .iload 5, .iconst 1, .bastore, .aload 0, .getstatic 731, .iload 2, .iload 5, .iastore, .iinc 2 1, .goto_w 178]),
  (178, [.goto 80]),
  (181, [.iinc 1 1, .goto 24]),
  (187, [.aload 0, .iconst 0, .multianewarray 11 28, .return_])]
def am_m70 : List (Nat × List am_I) := [(0, [.aload 0, .getstatic 730, .aload 0, .invokeinterface 11 28, .baload, .ifCond .eq 25, .aload 0, .dup, .invokeinterface 11 28, .iconst 1, .iadd, .multianewarray 11 28, .goto 0]),
  (25, [.aload 0, .getstatic 730, .aload 0, .invokeinterface 11 28, .iconst 1, .bastore, .aload 0, .getstatic 722, .aload 0, .invokeinterface 11 28, .iload 1, .iastore, .aload 0, .getstatic 723, .aload 0, .invokeinterface 11 28, .iload 2, .iastore, .aload 0, .getstatic 724, .aload 0, .invokeinterface 11 28, .iload 3, .iastore, .aload 0, .getstatic 725, .aload 0, .invokeinterface 11 28, .iload 4, .iastore, .aload 0, .getstatic 726, .aload 0, .invokeinterface 11 28, .iconst 1, .aload 0, .iload 3, .invokevirtual 1109060, .iadd, .aload 0, .iload 4, .invokevirtual 1109060, .iadd, .iastore, .aload 0, .getstatic 727, .aload 0, .invokeinterface 11 28, .iload 1, .iconst 9, .if_icmp .ne 117, .iconst 1, .goto 118]),
  (117, [.iconst 0, .goto_w 118]),
  (118, [.aload 0, .iload 3, .invokevirtual 1125444, .iadd, .aload 0, .iload 4, .invokevirtual 1125444, .iadd, .iastore, .aload 0, .getstatic 728, .aload 0, .invokeinterface 11 28, .aload 0, .invokeinterface 11 32, .iastore, .iconst 0, .istore 5, .goto_w 148]),
  (148, [.iload 5, .aload 0, .invokeinterface 11 32, .if_icmp .ge 185, .aload 0, .getstatic 729, .iconst 24, .aload 0, .invokeinterface 11 28, .imul, .iload 5, .iadd, .aload 0, .getstatic 737, .iload 5, .iaload, .iastore, .iinc 5 1, .goto 148]),
  (185, [.aload 0, .invokeinterface 11 28, .ireturn])]
def am_m71 : List (Nat × List am_I) := [(0, [.iload 1, .ifCond .eq 9, .iload 1, .iconst 1, .if_icmp .ne 17, .goto_w 9]),
  (9, [.aload 0, .iconst 0, .multianewarray 11 32, .goto 22]),
  (17, [.aload 0, .iload 3, .invokevirtual 994404, .goto_w 22]),
  (22, [.iload 1, .tableswitch 189 0 9 #[76, 91, 189, 91, 99, 189, 189, 125, 142, 170]]),
  (76, [.aload 0, .iload 2, .invokevirtual 928868, .aload 0, .iload 2, .iconst 1, .iadd, .invokevirtual 928868, .goto 203]),
  (91, [.aload 0, .iload 2, .invokevirtual 928868, .goto 203]),
  (99, [.aload 0, .aload 0, .iload 2, .invokevirtual 683108, .invokevirtual 961668, .aload 0, .aload 0, .iload 2, .invokevirtual 699492, .invokevirtual 961668, .aload 0, .iload 2, .invokevirtual 928868, .goto 203]),
  (125, [.aload 0, .aload 0, .iload 2, .invokevirtual 699492, .invokevirtual 961668, .aload 0, .iload 2, .invokevirtual 928868, .goto 203]),
  (142, [.aload 0, .aload 0, .iload 2, .invokevirtual 683108, .invokevirtual 961668, .aload 0, .iload 4, .aload 0, .iload 2, .invokevirtual 699492, .invokevirtual 1010886, .aload 0, .iload 2, .invokevirtual 928868, .goto 203]),
  (170, [.aload 0, .iload 2, .invokevirtual 961668, .aload 0, .iload 4, .aload 0, .iload 2, .invokevirtual 666692, .invokevirtual 1010886, .goto 203]),
  (189, [.aload 0, .aload 0, .iload 2, .invokevirtual 683108, .invokevirtual 961668, .aload 0, .iload 2, .invokevirtual 928868, .goto_w 203]),
  (203, [.aload 0, .iload 1, .iload 2, .iload 3, .iload 4, .invokevirtual 1158346, .ireturn])]
def am_m72 : List (Nat × List am_I) := [(0, [.iload 0, .ifCond .lt 9, .iload 0, .iconst 3, .if_icmp .le 13, .goto_w 9]),
  (9, [.iconst 1, .goto 14]),
  (13, [.iconst 0, .goto_w 14]),
  (14, [.freturn])]
def am_m73 : List (Nat × List am_I) := [(0, [.aload 0, .iload 2, .invokevirtual 994404, .aload 0, .getstatic 726, .iload 2, .iaload, .iconst 100, .if_icmp .gt 34, .aload 0, .invokeinterface 11 32, .iconst 8, .if_icmp .gt 34, .aload 0, .invokevirtual 978018, .iconst 12, .if_icmp .le 41, .goto_w 34]),
  (34, [.aload 0, .iload 3, .multianewarray 11 0, .iconst 0, .ireturn]),
  (41, [.aload 0, .getstatic 733, .iload 1, .iload 2, .iastore, .aload 0, .getstatic 726, .iload 2, .iaload, .ireturn])]
def am_m74 : List (Nat × List am_I) := [(0, [.aload 0, .iload 1, .invokestatic 1179682, .ifCond .ne 18, .iload 2, .ifCond .lt 18, .iload 2, .iconst 7, .if_icmp .le 22, .goto_w 18]),
  (18, [.iconst 1, .goto 23]),
  (22, [.iconst 0, .goto_w 23]),
  (23, [.iconst 0, .invokevirtual 601190, .ifCond .ne 32, .iconst 0, .ireturn]),
  (32, [.aload 0, .invokevirtual 1141954, .aload 0, .iload 1, .aload 0, .iconst 0, .iconst 2, .iload 2, .imul, .iconst (-1), .iconst (-1), .invokevirtual 1174698, .iconst 0, .invokevirtual 1207432, .ireturn])]
def am_m75 : List (Nat × List am_I) := [(0, [.aload 0, .iload 1, .invokestatic 1179682, .iconst 0, .invokevirtual 601190, .ifCond .ne 14, .iconst 0, .ireturn]),
  (14, [.aload 0, .invokevirtual 1141954, .aload 0, .iload 1, .aload 0, .iconst 1, .iconst 16, .iconst (-1), .iconst (-1), .invokevirtual 1174698, .iconst 0, .invokevirtual 1207432, .ireturn])]
def am_m76 : List (Nat × List am_I) := [(0, [.aload 0, .iload 1, .invokestatic 1179682, .iconst 0, .invokevirtual 601190, .ifCond .ne 14, .iconst 0, .ireturn]),
  (14, [.aload 0, .invokevirtual 1141954, .aload 0, .invokevirtual 1027138, .aload 0, .iconst 19, .invokevirtual 928868, .aload 0, .iload 1, .aload 0, .iconst 2, .iconst 19, .iconst (-1), .iconst (-1), .invokevirtual 1158346, .iconst 2, .invokevirtual 1207432, .ireturn])]
def am_m77 : List (Nat × List am_I) := [(0, [.aload 0, .iload 1, .invokevirtual 994404, .aload 0, .iload 2, .invokevirtual 945252, .ifCond .lt 17, .iconst 1, .goto 18]),
  (17, [.iconst 0, .goto_w 18]),
  (18, [.freturn])]
def am_m78 : List (Nat × List am_I) := [(0, [.aload 0, .iload 1, .invokestatic 1179682, .iload 1, .invokestatic 1179682, .ifCond .ne 25, .aload 0, .getstatic 733, .iload 1, .iaload, .ifCond .ge 25, .iconst 1, .goto 26]),
  (25, [.iconst 0, .goto_w 26]),
  (26, [.invokevirtual 601190, .ifCond .ne 34, .iconst 0, .ireturn]),
  (34, [.aload 0, .invokevirtual 1141954, .aload 0, .iload 1, .aload 0, .iconst 3, .iconst 17, .aload 0, .getstatic 733, .iload 1, .iaload, .iconst (-1), .invokevirtual 1174698, .iconst 3, .invokevirtual 1207432, .ireturn])]
def am_m79 : List (Nat × List am_I) := [(0, [.aload 0, .iload 1, .iload 2, .invokevirtual 1272934, .ifCond .ne 11, .iconst 0, .freturn]),
  (11, [.aload 0, .iload 2, .invokevirtual 961668, .aload 0, .iload 3, .invokevirtual 945252, .ifCond .lt 28, .iconst 1, .goto 29]),
  (28, [.iconst 0, .goto_w 29]),
  (29, [.freturn])]
def am_m80 : List (Nat × List am_I) := [(0, [.aload 0, .iload 1, .invokestatic 1179682, .ifCond .ne 25, .aload 0, .iload 2, .invokevirtual 617540, .ifCond .eq 25, .aload 0, .iload 2, .invokevirtual 650340, .iconst 1, .if_icmp .eq 29, .goto_w 25]),
  (25, [.iconst 1, .goto 30]),
  (29, [.iconst 0, .goto_w 30]),
  (30, [.iconst 0, .invokevirtual 601190, .ifCond .ne 39, .iconst 0, .ireturn]),
  (39, [.aload 0, .iconst 0, .aload 0, .getstatic 733, .iload 1, .iaload, .ifCond .lt 73, .aload 0, .aload 0, .getstatic 733, .iload 1, .iaload, .aload 0, .iload 2, .invokevirtual 683108, .aload 0, .iload 2, .invokevirtual 699492, .invokevirtual 1305736, .ifCond .ne 77, .goto_w 73]),
  (73, [.iconst 1, .goto 78]),
  (77, [.iconst 0, .goto_w 78]),
  (78, [.invokevirtual 601190, .ifCond .ne 86, .iconst 0, .ireturn]),
  (86, [.aload 0, .invokevirtual 1141954, .aload 0, .iload 1, .aload 0, .iconst 4, .iload 2, .aload 0, .getstatic 733, .iload 1, .iaload, .iconst (-1), .invokevirtual 1174698, .iconst 3, .invokevirtual 1207432, .ireturn])]
def am_m81 : List (Nat × List am_I) := [(0, [.aload 0, .iload 1, .invokestatic 1179682, .ifCond .ne 25, .aload 0, .iload 2, .invokevirtual 617540, .ifCond .eq 25, .aload 0, .iload 2, .invokevirtual 650340, .iconst 2, .if_icmp .eq 29, .goto_w 25]),
  (25, [.iconst 1, .goto 30]),
  (29, [.iconst 0, .goto_w 30]),
  (30, [.iconst 0, .invokevirtual 601190, .ifCond .ne 39, .iconst 0, .ireturn]),
  (39, [.aload 0, .iconst 0, .aload 0, .getstatic 733, .iload 1, .iaload, .ifCond .lt 80, .aload 0, .aload 0, .getstatic 733, .iload 1, .iaload, .iload 3, .ifCond .eq 69, .aload 0, .iload 2, .invokevirtual 699492, .goto 74]),
  (69, [.aload 0, .iload 2, .invokevirtual 683108, .goto_w 74]),
  (74, [.invokevirtual 1272934, .ifCond .ne 84, .goto_w 80]),
  (80, [.iconst 1, .goto 85]),
  (84, [.iconst 0, .goto_w 85]),
  (85, [.invokevirtual 601190, .ifCond .ne 93, .iconst 0, .ireturn]),
  (93, [.aload 0, .invokevirtual 1141954, .aload 0, .iload 1, .aload 0, .iload 3, .ifCond .eq 109, .iconst 7, .goto 111]),
  (109, [.iconst 6, .goto_w 111]),
  (111, [.iload 2, .aload 0, .getstatic 733, .iload 1, .iaload, .iconst (-1), .invokevirtual 1174698, .iconst 3, .invokevirtual 1207432, .ireturn])]
def am_m82 : List (Nat × List am_I) := [(0, [.aload 0, .getstatic 728, .iload 1, .iaload, .aload 0, .getstatic 728, .iload 3, .iaload, .if_icmp .eq 17, .iconst 0, .freturn]),
  (17, [.aload 0, .iload 1, .invokevirtual 994404, .aload 0, .iload 2, .invokevirtual 961668, .iconst 0, .istore 5, .iconst 0, .istore 6, .iconst 1, .istore 7, .iconst 0, .istore 8, .goto_w 39]),
  (39, [.iload 8, .aload 0, .getstatic 728, .iload 3, .iaload, .if_icmp .ge 115, .aload 0, .getstatic 729, .iconst 24, .iload 3, .imul, .iload 8, .iadd, .iaload, .istore 9, .iload 9, .iload 4, .if_icmp .ne 82, .iload 5, .ifCond .ne 82, .iconst 1, .istore 5, .goto 109]),
  (82, [.iload 7, .ifCond .eq 103, .aload 0, .getstatic 737, .iload 6, .iaload, .iload 9, .if_icmp .ne 103, .iconst 1, .goto 104]),
  (103, [.iconst 0, .goto_w 104]),
  (104, [.istore 7, .iinc 6 1, .goto_w 109]),
  (109, [.iinc 8 1, .goto 39]),
  (115, [.iload 7, .freturn])]
def am_m83 : List (Nat × List am_I) := [(0, [.aload 0, .getstatic 733, .iload 1, .iaload, .istore 7, .aload 0, .getstatic 733, .iload 2, .iaload, .istore 8, .aload 0, .iconst 0, .iload 7, .ifCond .lt 70, .iload 8, .ifCond .lt 70, .aload 0, .iload 7, .iload 5, .invokevirtual 1272934, .ifCond .eq 70, .aload 0, .iload 8, .iload 6, .invokevirtual 1272934, .ifCond .eq 70, .iload 3, .iconst 5, .if_icmp .ne 74, .aload 0, .iload 7, .iload 5, .iload 8, .iload 6, .invokevirtual 1355082, .ifCond .ne 74, .goto_w 70]),
  (70, [.iconst 1, .goto 75]),
  (74, [.iconst 0, .goto_w 75]),
  (75, [.invokevirtual 601190, .ifCond .ne 83, .iconst 0, .ireturn]),
  (83, [.aload 0, .invokevirtual 1141954, .aload 0, .iload 1, .aload 0, .iload 3, .iload 4, .iload 7, .iload 8, .invokevirtual 1174698, .iconst 3, .invokevirtual 1207432, .ireturn])]
def am_m84 : List (Nat × List am_I) := [(0, [.aload 0, .iload 1, .invokestatic 1179682, .ifCond .ne 32, .iload 2, .invokestatic 1179682, .ifCond .ne 32, .aload 0, .iload 3, .invokevirtual 617540, .ifCond .eq 32, .aload 0, .iload 3, .invokevirtual 650340, .iconst 3, .if_icmp .eq 36, .goto_w 32]),
  (32, [.iconst 1, .goto 37]),
  (36, [.iconst 0, .goto_w 37]),
  (37, [.iconst 0, .invokevirtual 601190, .ifCond .ne 46, .iconst 0, .ireturn]),
  (46, [.aload 0, .iload 1, .iload 2, .iconst 5, .iload 3, .aload 0, .iload 3, .invokevirtual 683108, .aload 0, .iload 3, .invokevirtual 699492, .invokevirtual 1371438, .ireturn])]
def am_m85 : List (Nat × List am_I) := [(0, [.aload 0, .iload 1, .invokestatic 1179682, .ifCond .ne 31, .iload 2, .invokestatic 1179682, .ifCond .ne 31, .aload 0, .iload 3, .invokevirtual 617540, .ifCond .eq 31, .aload 0, .iload 3, .invokevirtual 650340, .ifCond .eq 35, .goto_w 31]),
  (31, [.iconst 1, .goto 36]),
  (35, [.iconst 0, .goto_w 36]),
  (36, [.iconst 0, .invokevirtual 601190, .ifCond .ne 45, .iconst 0, .ireturn]),
  (45, [.aload 0, .iload 1, .iload 2, .iconst 8, .iload 3, .aload 0, .iload 3, .invokevirtual 683108, .aload 0, .iload 3, .invokevirtual 699492, .invokevirtual 1371438, .ireturn])]
def am_m86 : List (Nat × List am_I) := [(0, [.aload 0, .iload 1, .invokestatic 1179682, .ifCond .ne 23, .iload 2, .invokestatic 1179682, .ifCond .ne 23, .aload 0, .iload 3, .invokevirtual 617540, .ifCond .ne 27, .goto_w 23]),
  (23, [.iconst 1, .goto 28]),
  (27, [.iconst 0, .goto_w 28]),
  (28, [.iconst 0, .invokevirtual 601190, .ifCond .ne 37, .iconst 0, .ireturn]),
  (37, [.aload 0, .iload 1, .iload 2, .iconst 9, .iload 3, .iload 3, .aload 0, .iload 3, .invokevirtual 666692, .invokevirtual 1371438, .ireturn])]
def am_m87 : List (Nat × List am_I) := [(0, [.aload 0, .iload 1, .invokestatic 1179682, .iconst 0, .invokevirtual 601190, .ifCond .ne 14, .iconst 0, .ireturn]),
  (14, [.aload 0, .aload 0, .getstatic 733, .iload 1, .iaload, .invokevirtual 1109060, .istore 2, .aload 0, .getstatic 733, .iload 1, .iconst (-1), .iastore, .iload 2, .ireturn])]
def am_m88 : List (Nat × List am_I) := [(0, [.jsr_w 1, .lstore 1, .iconst 0, .istore 3, .iconst 0, .istore 4, .goto_w 7]),
  (7, [.iload 4, .aload 0, .invokeinterface 11 32, .if_icmp .ge 55, .jsr_w 128, .lload 1, .lmul, .aload 0, .getstatic 737, .iload 4, .iaload, .i2l, .ladd, .lstore 1, .iload 3, .iconst 2, .aload 0, .aload 0, .getstatic 737, .iload 4, .iaload, .invokevirtual 633924, .imul, .iadd, .iconst 1, .isub, .istore 3, .iinc 4 1, .goto 7]),
  (55, [.iconst 0, .istore 4, .goto_w 58]),
  (58, [.iload 4, .aload 0, .invokeinterface 11 34, .if_icmp .ge 85, .aload 0, .getstatic 741, .iload 4, .laload, .lload 1, .lcmp, .ifCond .eq 85, .iinc 4 1, .goto 58]),
  (85, [.iload 4, .aload 0, .invokeinterface 11 34, .if_icmp .ne 185, .aload 0, .getstatic 741, .iload 4, .lload 1, .lastore, .aload 0, .getstatic 742, .iload 4, .iload 3, .iastore, .aload 0, .getstatic 740, .iload 4, .aload 0, .invokeinterface 11 32, .iastore, .aload 0, .getstatic 743, .iload 4, .iconst 0, .iastore, .aload 0, .getstatic 747, .iload 4, .iconst 0, .bastore, .iconst 0, .istore 5, .goto_w 140]),
  (140, [.iload 5, .aload 0, .invokeinterface 11 32, .if_icmp .ge 175, .aload 0, .getstatic 739, .iconst 8, .iload 4, .imul, .iload 5, .iadd, .aload 0, .getstatic 737, .iload 5, .iaload, .iastore, .iinc 5 1, .goto 140]),
  (175, [.aload 0, .dup, .invokeinterface 11 34, .iconst 1, .iadd, .multianewarray 11 34, .goto_w 185]),
  (185, [.iload 4, .ireturn])]
def am_m89 : List (Nat × List am_I) := [(0, [.aload 0, .iconst 0, .multianewarray 11 32, .iconst 0, .istore 5, .iconst 0, .istore 6, .iconst 0, .istore 7, .goto_w 14]),
  (14, [.iload 7, .aload 0, .getstatic 740, .iload 1, .iaload, .if_icmp .ge 82, .aload 0, .getstatic 739, .iconst 8, .iload 1, .imul, .iload 7, .iadd, .iaload, .istore 8, .iload 8, .iload 2, .if_icmp .ne 56, .iload 5, .ifCond .ne 56, .iconst 1, .istore 5, .goto 76]),
  (56, [.iload 4, .iload 6, .ishr, .iconst 1, .iand, .iconst 1, .if_icmp .ne 73, .aload 0, .iload 8, .invokevirtual 928868, .goto_w 73]),
  (73, [.iinc 6 1, .goto_w 76]),
  (76, [.iinc 7 1, .goto 14]),
  (82, [.iload 3, .iconst 2, .irem, .iconst 1, .if_icmp .ne 98, .aload 0, .aload 0, .iload 2, .invokevirtual 683108, .invokevirtual 928868, .goto_w 98]),
  (98, [.iload 3, .iconst 1, .if_icmp .le 112, .aload 0, .aload 0, .iload 2, .invokevirtual 699492, .invokevirtual 928868, .goto_w 112]),
  (112, [.aload 0, .invokevirtual 1453250, .ireturn])]
def am_m90 : List (Nat × List am_I) := [(0, [.iconst 0, .istore 2, .goto_w 2]),
  (2, [.iload 2, .aload 0, .getstatic 740, .iload 1, .iaload, .if_icmp .ge 45, .aload 0, .getstatic 739, .iconst 8, .iload 1, .imul, .iload 2, .iadd, .iaload, .istore 3, .iload 3, .iconst 16, .if_icmp .le 39, .iload 3, .iconst 2, .irem, .iconst 1, .if_icmp .ne 39, .iload 3, .ireturn]),
  (39, [.iinc 2 1, .goto 2]),
  (45, [.iconst (-1), .ireturn])]
def am_m91 : List (Nat × List am_I) := [(0, [.aload 0, .getstatic 743, .iload 1, .iaload, .ifCond .ne 71, .iload 4, .ifCond .lt 24, .aload 0, .getstatic 743, .iload 4, .iaload, .ifCond .le 71, .goto_w 24]),
  (24, [.iload 5, .ifCond .lt 39, .aload 0, .getstatic 743, .iload 5, .iaload, .ifCond .le 71, .goto_w 39]),
  (39, [.aload 0, .getstatic 743, .iload 1, .iload 2, .iconst 1, .iadd, .iastore, .aload 0, .getstatic 744, .iload 1, .iload 3, .iastore, .aload 0, .getstatic 745, .iload 1, .iload 4, .iastore, .aload 0, .getstatic 746, .iload 1, .iload 5, .iastore, .goto_w 71]),
  (71, [.return_])]
def am_m92 : List (Nat × List am_I) := [(0, [.aload 0, .iload 1, .invokevirtual 1485956, .istore 2, .iload 2, .iconst 19, .if_icmp .ne 24, .aload 0, .iload 1, .iconst 2, .iload 2, .iconst (-1), .iconst (-1), .invokevirtual 1502412, .goto 126]),
  (24, [.iload 2, .iconst 17, .if_icmp .ne 51, .aload 0, .iload 1, .iload 2, .iconst 0, .iconst (-1), .invokevirtual 1469738, .istore 3, .aload 0, .iload 1, .iconst 3, .iload 2, .iload 3, .iconst (-1), .invokevirtual 1502412, .goto 126]),
  (51, [.iload 2, .ifCond .le 85, .aload 0, .iload 2, .invokevirtual 650340, .iconst 1, .if_icmp .ne 85, .aload 0, .iload 1, .iload 2, .iconst 3, .iconst (-1), .invokevirtual 1469738, .istore 3, .aload 0, .iload 1, .iconst 4, .iload 2, .iload 3, .iconst (-1), .invokevirtual 1502412, .goto 126]),
  (85, [.iload 2, .ifCond .le 121, .aload 0, .iload 1, .iload 2, .iconst 1, .iconst (-1), .invokevirtual 1469738, .istore 3, .aload 0, .iload 1, .iload 2, .iconst 2, .iconst (-1), .invokevirtual 1469738, .istore 4, .aload 0, .iload 1, .iconst 5, .iload 2, .iload 3, .iload 4, .invokevirtual 1502412, .goto 126]),
  (121, [.aload 0, .iload 1, .invokevirtual 1535140, .goto_w 126]),
  (126, [.return_])]
def am_m93 : List (Nat × List am_I) := [(0, [.aload 0, .getstatic 740, .iload 1, .iaload, .ifCond .ne 13, .iconst (-1), .goto 22]),
  (13, [.aload 0, .getstatic 739, .iconst 8, .iload 1, .imul, .iaload, .goto_w 22]),
  (22, [.istore 2, .aload 0, .getstatic 740, .iload 1, .iaload, .iconst 2, .if_icmp .ne 71, .iload 2, .iconst 16, .if_icmp .ge 71, .iload 2, .iconst 2, .irem, .ifCond .ne 71, .aload 0, .getstatic 739, .iconst 8, .iload 1, .imul, .iconst 1, .iadd, .iaload, .iload 2, .iconst 1, .iadd, .if_icmp .ne 71, .aload 0, .iload 1, .iconst 0, .iload 2, .iconst (-1), .iconst (-1), .invokevirtual 1502412, .goto_w 71]),
  (71, [.aload 0, .getstatic 740, .iload 1, .iaload, .iconst 1, .if_icmp .ne 96, .iload 2, .iconst 16, .if_icmp .ne 96, .aload 0, .iload 1, .iconst 1, .iload 2, .iconst (-1), .iconst (-1), .invokevirtual 1502412, .goto_w 96]),
  (96, [.iconst 0, .istore 3, .goto_w 98]),
  (98, [.iload 3, .aload 0, .getstatic 740, .iload 1, .iaload, .if_icmp .ge 148, .aload 0, .getstatic 739, .iconst 8, .iload 1, .imul, .iload 3, .iadd, .iaload, .istore 4, .iload 4, .iconst 20, .if_icmp .lt 142, .iload 4, .iconst 2, .irem, .ifCond .ne 142, .aload 0, .iload 1, .iload 4, .invokevirtual 1551558, .goto_w 142]),
  (142, [.iinc 3 1, .goto 98]),
  (148, [.return_])]
def am_m94 : List (Nat × List am_I) := [(0, [.aload 0, .iload 2, .invokevirtual 650340, .iconst 2, .if_icmp .ne 50, .aload 0, .iload 1, .iload 2, .iconst 1, .iconst (-1), .invokevirtual 1469738, .istore 3, .aload 0, .iload 1, .iconst 6, .iload 2, .iload 3, .iconst (-1), .invokevirtual 1502412, .aload 0, .iload 1, .iload 2, .iconst 2, .iconst (-1), .invokevirtual 1469738, .istore 4, .aload 0, .iload 1, .iconst 7, .iload 2, .iload 4, .iconst (-1), .invokevirtual 1502412, .return_]),
  (50, [.iconst 0, .istore 3, .goto_w 52]),
  (52, [.iload 3, .iconst 1, .aload 0, .getstatic 740, .iload 1, .iaload, .iconst 1, .isub, .ishl, .if_icmp .ge 106, .aload 0, .iload 1, .iload 2, .iconst 1, .iload 3, .invokevirtual 1469738, .istore 4, .aload 0, .iload 1, .iload 2, .iconst 2, .iload 3, .iconst (-1), .ixor, .invokevirtual 1469738, .istore 5, .aload 0, .iload 1, .iconst 8, .iload 2, .iload 4, .iload 5, .invokevirtual 1502412, .iinc 3 1, .goto 52]),
  (106, [.return_])]
def am_m95 : List (Nat × List am_I) := [(0, [.aload 0, .iconst 0, .multianewarray 11 34, .aload 0, .invokevirtual 1027138, .aload 0, .invokevirtual 1453250, .istore 1, .iload 1, .istore 2, .goto_w 16]),
  (16, [.iload 2, .aload 0, .invokeinterface 11 34, .if_icmp .ge 42, .aload 0, .iload 2, .invokevirtual 1518756, .aload 0, .getstatic 743, .iload 2, .iconst 0, .iastore, .iinc 2 1, .goto 16]),
  (42, [.iconst 0, .istore 2, .goto_w 44]),
  (44, [.iload 2, .iconst 16, .if_icmp .ge 87, .iconst 0, .istore 3, .goto_w 52]),
  (52, [.iload 3, .aload 0, .invokeinterface 11 34, .if_icmp .ge 81, .aload 0, .getstatic 742, .iload 3, .iaload, .iload 2, .if_icmp .ne 75, .aload 0, .iload 3, .invokevirtual 1518756, .goto_w 75]),
  (75, [.iinc 3 1, .goto 52]),
  (81, [.iinc 2 1, .goto 44]),
  (87, [.aload 0, .getstatic 743, .iconst 0, .iaload, .ifCond .le 100, .iconst 1, .goto 101]),
  (100, [.iconst 0, .goto_w 101]),
  (101, [.freturn])]
def am_m96 : List (Nat × List am_I) := [(0, [.aload 0, .iload 1, .invokestatic 1179682, .iconst 0, .invokevirtual 601190, .ifCond .eq 19, .aload 0, .invokevirtual 1567874, .ifCond .ne 21, .goto_w 19]),
  (19, [.iconst 0, .freturn]),
  (21, [.aload 0, .invokevirtual 1141954, .aload 0, .getstatic 747, .iconst 0, .iconst 1, .bastore, .iconst 15, .istore 2, .goto_w 35]),
  (35, [.iload 2, .ifCond .lt 100, .iconst 0, .istore 3, .goto_w 41]),
  (41, [.iload 3, .aload 0, .invokeinterface 11 34, .if_icmp .ge 94, .aload 0, .getstatic 742, .iload 3, .iaload, .iload 2, .if_icmp .ne 88, .aload 0, .getstatic 747, .iload 3, .baload, .ifCond .eq 88, .aload 0, .aload 0, .getstatic 745, .iload 3, .iaload, .invokevirtual 1600580, .aload 0, .aload 0, .getstatic 746, .iload 3, .iaload, .invokevirtual 1600580, .goto_w 88]),
  (88, [.iinc 3 1, .goto 41]),
  (94, [.iinc 2 (-1), .goto 35]),
  (100, [.iconst 0, .istore 2, .goto_w 102]),
  (102, [.iload 2, .iconst 16, .if_icmp .ge 160, .iconst 0, .istore 3, .goto_w 110]),
  (110, [.iload 3, .aload 0, .invokeinterface 11 34, .if_icmp .ge 154, .aload 0, .getstatic 742, .iload 3, .iaload, .iload 2, .if_icmp .ne 148, .aload 0, .getstatic 747, .iload 3, .baload, .ifCond .eq 148, .aload 0, .getstatic 748, .iload 3, .aload 0, .iload 3, .invokevirtual 1617060, .iastore, .goto_w 148]),
  (148, [.iinc 3 1, .goto 110]),
  (154, [.iinc 2 1, .goto 102]),
  (160, [.aload 0, .getstatic 733, .iload 1, .aload 0, .getstatic 748, .iconst 0, .iaload, .iastore, .iconst 1, .freturn])]
def am_m97 : List (Nat × List am_I) := [(0, [.iload 1, .ifCond .lt 11, .aload 0, .getstatic 747, .iload 1, .iconst 1, .bastore, .goto_w 11]),
  (11, [.return_])]
def am_m98 : List (Nat × List am_I) := [(0, [.aload 0, .getstatic 743, .iload 1, .iaload, .iconst 1, .isub, .istore 2, .iload 2, .iconst 2, .if_icmp .ne 67, .aload 0, .aload 0, .getstatic 740, .iload 1, .iaload, .multianewarray 11 32, .iconst 0, .istore 3, .goto_w 26]),
  (26, [.iload 3, .aload 0, .invokeinterface 11 32, .if_icmp .ge 57, .aload 0, .getstatic 737, .iload 3, .aload 0, .getstatic 739, .iconst 8, .iload 1, .imul, .iload 3, .iadd, .iaload, .iastore, .iinc 3 1, .goto 26]),
  (57, [.aload 0, .iconst 2, .iconst 19, .iconst (-1), .iconst (-1), .invokevirtual 1158346, .ireturn]),
  (67, [.aload 0, .getstatic 745, .iload 1, .iaload, .ifCond .ge 80, .iconst (-1), .goto 91]),
  (80, [.aload 0, .getstatic 748, .aload 0, .getstatic 745, .iload 1, .iaload, .iaload, .goto_w 91]),
  (91, [.istore 3, .aload 0, .getstatic 746, .iload 1, .iaload, .ifCond .ge 105, .iconst (-1), .goto 116]),
  (105, [.aload 0, .getstatic 748, .aload 0, .getstatic 746, .iload 1, .iaload, .iaload, .goto_w 116]),
  (116, [.istore 4, .aload 0, .iload 2, .aload 0, .getstatic 744, .iload 1, .iaload, .iload 3, .iload 4, .invokevirtual 1174698, .ireturn])]
def am_m99 : List (Nat × List am_I) := [(0, [.aload 0, .iconst 9, .iload 1, .iload 2, .iload 3, .invokevirtual 1174698, .ireturn])]
def am_m100 : List (Nat × List am_I) := [(0, [.iconst 0, .istore 2, .iload 1, .istore 3, .goto_w 4]),
  (4, [.aload 0, .getstatic 722, .iload 3, .iaload, .iconst 9, .if_icmp .ne 25, .aload 0, .getstatic 727, .iload 3, .iaload, .iconst 1, .if_icmp .le 87, .goto_w 25]),
  (25, [.aload 0, .getstatic 734, .iload 2, .iload 3, .iastore, .aload 0, .getstatic 735, .iload 2, .aload 0, .aload 0, .getstatic 724, .iload 3, .iaload, .invokevirtual 1125444, .ifCond .ne 54, .iconst 1, .goto 55]),
  (54, [.iconst 0, .goto_w 55]),
  (55, [.bastore, .aload 0, .getstatic 735, .iload 2, .baload, .ifCond .eq 74, .aload 0, .getstatic 725, .iload 3, .iaload, .goto 80]),
  (74, [.aload 0, .getstatic 724, .iload 3, .iaload, .goto_w 80]),
  (80, [.istore 3, .iinc 2 1, .goto 4]),
  (87, [.aload 0, .aload 0, .getstatic 723, .iload 3, .iaload, .aload 0, .getstatic 724, .iload 3, .iaload, .aload 0, .getstatic 725, .iload 3, .iaload, .invokevirtual 1666184, .istore 4, .goto_w 111]),
  (111, [.iload 2, .ifCond .le 197, .iinc 2 (-1), .aload 0, .getstatic 734, .iload 2, .iaload, .istore 5, .aload 0, .getstatic 735, .iload 2, .baload, .ifCond .eq 165, .aload 0, .aload 0, .getstatic 722, .iload 5, .iaload, .aload 0, .getstatic 723, .iload 5, .iaload, .aload 0, .getstatic 724, .iload 5, .iaload, .iload 4, .invokevirtual 1174698, .goto 192]),
  (165, [.aload 0, .aload 0, .getstatic 722, .iload 5, .iaload, .aload 0, .getstatic 723, .iload 5, .iaload, .iload 4, .aload 0, .getstatic 725, .iload 5, .iaload, .invokevirtual 1174698, .goto_w 192]),
  (192, [.istore 4, .goto 111]),
  (197, [.iload 4, .ireturn])]
def am_m101 : List (Nat × List am_I) := [(0, [.aload 0, .getstatic 722, .iload 2, .iaload, .ifCond .ne 11, .iload 3, .ireturn]),
  (11, [.aload 0, .getstatic 722, .iload 3, .iaload, .ifCond .ne 22, .iload 2, .ireturn]),
  (22, [.aload 0, .getstatic 723, .iload 2, .iaload, .iload 1, .if_icmp .eq 41, .aload 0, .iload 1, .iload 2, .iload 3, .iconst 1, .invokevirtual 1682826, .ireturn]),
  (41, [.aload 0, .getstatic 723, .iload 3, .iaload, .aload 0, .iload 1, .invokevirtual 666692, .if_icmp .eq 66, .aload 0, .iload 1, .iload 2, .iload 3, .iconst 0, .invokevirtual 1682826, .goto 73]),
  (66, [.aload 0, .iload 1, .iload 2, .iload 3, .invokevirtual 1699112, .goto_w 73]),
  (73, [.ireturn])]
def am_m102 : List (Nat × List am_I) := [(0, [.iload 4, .ifCond .eq 9, .iload 2, .goto 10]),
  (9, [.iload 3, .goto_w 10]),
  (10, [.istore 5, .iload 4, .ifCond .eq 21, .iload 1, .goto 26]),
  (21, [.aload 0, .iload 1, .invokevirtual 666692, .goto_w 26]),
  (26, [.istore 6, .aload 0, .getstatic 724, .iload 5, .iaload, .istore 7, .aload 0, .getstatic 725, .iload 5, .iaload, .istore 8, .aload 0, .getstatic 723, .iload 5, .iaload, .istore 9, .aload 0, .getstatic 722, .iload 5, .iaload, .iconst 2, .if_icmp .ne 96, .aload 0, .iload 2, .invokevirtual 994404, .aload 0, .iload 1, .invokevirtual 961668, .aload 0, .iload 3, .aload 0, .iload 1, .invokevirtual 666692, .invokevirtual 1010886, .aload 0, .iconst 2, .iconst 19, .iconst (-1), .iconst (-1), .invokevirtual 1158346, .ireturn]),
  (96, [.aload 0, .getstatic 722, .iload 5, .iaload, .iconst 8, .if_icmp .ne 172, .aload 0, .iload 7, .invokevirtual 994404, .aload 0, .aload 0, .iload 9, .invokevirtual 683108, .invokevirtual 961668, .aload 0, .iload 6, .invokevirtual 945252, .ifCond .ge 172, .iload 4, .ifCond .eq 149, .aload 0, .iload 1, .iload 8, .iload 3, .invokevirtual 1633416, .goto 157]),
  (149, [.aload 0, .iload 1, .iload 2, .iload 8, .invokevirtual 1633416, .goto_w 157]),
  (157, [.istore 10, .aload 0, .iconst 8, .iload 9, .iload 7, .iload 10, .invokevirtual 1174698, .ireturn]),
  (172, [.iload 4, .ifCond .eq 188, .aload 0, .iload 1, .iload 7, .iload 3, .invokevirtual 1633416, .goto 196]),
  (188, [.aload 0, .iload 1, .iload 2, .iload 7, .invokevirtual 1633416, .goto_w 196]),
  (196, [.istore 10, .aload 0, .getstatic 722, .iload 5, .iaload, .iconst 5, .if_icmp .eq 227, .aload 0, .aload 0, .getstatic 722, .iload 5, .iaload, .iload 9, .iload 10, .iload 8, .invokevirtual 1174698, .ireturn]),
  (227, [.iload 4, .ifCond .eq 243, .aload 0, .iload 1, .iload 8, .iload 3, .invokevirtual 1633416, .goto 251]),
  (243, [.aload 0, .iload 1, .iload 2, .iload 8, .invokevirtual 1633416, .goto_w 251]),
  (251, [.istore 11, .aload 0, .iconst 5, .iload 9, .iload 10, .iload 11, .invokevirtual 1174698, .ireturn])]
def am_m103 : List (Nat × List am_I) := [(0, [.iload 1, .iconst 16, .if_icmp .eq 12, .iload 1, .iconst 17, .if_icmp .ne 38, .goto_w 12]),
  (12, [.aload 0, .getstatic 722, .iload 2, .iaload, .iconst 3, .if_icmp .ne 31, .aload 0, .getstatic 724, .iload 2, .iaload, .goto 37]),
  (31, [.aload 0, .getstatic 724, .iload 3, .iaload, .goto_w 37]),
  (37, [.ireturn]),
  (38, [.iload 1, .iconst 2, .irem, .ifCond .ne 48, .iconst 1, .goto 49]),
  (48, [.iconst 0, .goto_w 49]),
  (49, [.istore 4, .iload 4, .ifCond .eq 60, .iload 2, .goto 61]),
  (60, [.iload 3, .goto_w 61]),
  (61, [.istore 5, .iload 4, .ifCond .eq 72, .iload 3, .goto 73]),
  (72, [.iload 2, .goto_w 73]),
  (73, [.istore 6, .aload 0, .getstatic 723, .iload 5, .iaload, .istore 7, .aload 0, .getstatic 722, .iload 5, .iaload, .iconst 8, .if_icmp .ne 142, .aload 0, .aload 0, .iload 7, .invokevirtual 699492, .aload 0, .getstatic 725, .iload 5, .iaload, .aload 0, .getstatic 724, .iload 6, .iaload, .invokevirtual 1633416, .istore 8, .aload 0, .aload 0, .iload 7, .invokevirtual 683108, .aload 0, .getstatic 724, .iload 5, .iaload, .iload 8, .invokevirtual 1633416, .ireturn]),
  (142, [.aload 0, .getstatic 722, .iload 5, .iaload, .iconst 6, .if_icmp .ne 181, .aload 0, .aload 0, .iload 7, .invokevirtual 683108, .aload 0, .getstatic 724, .iload 5, .iaload, .aload 0, .getstatic 724, .iload 6, .iaload, .invokevirtual 1633416, .goto 205]),
  (181, [.aload 0, .aload 0, .iload 7, .invokevirtual 699492, .aload 0, .getstatic 724, .iload 5, .iaload, .aload 0, .getstatic 725, .iload 6, .iaload, .invokevirtual 1633416, .goto_w 205]),
  (205, [.ireturn])]
def am_m104 : List (Nat × List am_I) := [(0, [.aload 0, .iload 1, .invokestatic 1179682, .iload 1, .invokestatic 1179682, .ifCond .ne 25, .aload 0, .getstatic 733, .iload 1, .iaload, .ifCond .ge 25, .iconst 1, .goto 26]),
  (25, [.iconst 0, .goto_w 26]),
  (26, [.invokevirtual 601190, .ifCond .ne 34, .iconst 0, .ireturn]),
  (34, [.aload 0, .getstatic 727, .aload 0, .getstatic 733, .iload 1, .iaload, .iaload, .ifCond .ne 50, .iconst (-1), .ireturn]),
  (50, [.aload 0, .invokevirtual 1141954, .aload 0, .aload 0, .getstatic 733, .iload 1, .iaload, .invokevirtual 1649860, .istore 2, .aload 0, .getstatic 726, .iload 2, .iaload, .iconst 100, .if_icmp .le 83, .aload 0, .iconst 3, .multianewarray 11 0, .iconst 0, .ireturn]),
  (83, [.aload 0, .getstatic 733, .iload 1, .iload 2, .iastore, .aload 0, .getstatic 727, .iload 2, .iaload, .ireturn])]
def am_m105 : List (Nat × List am_I) := [(0, [.aload 0, .iload 1, .invokestatic 1179682, .iload 1, .invokestatic 1179682, .ifCond .ne 25, .aload 0, .getstatic 733, .iload 1, .iaload, .ifCond .ge 25, .iconst 1, .goto 26]),
  (25, [.iconst 0, .goto_w 26]),
  (26, [.invokevirtual 601190, .ifCond .ne 34, .iconst 0, .ireturn]),
  (34, [.iconst 0, .istore 2, .aload 0, .getstatic 733, .iconst 4, .aload 0, .getstatic 733, .iload 1, .iaload, .iastore, .goto_w 48]),
  (48, [.aload 0, .invokeinterface 11 0, .ifCond .ne 127, .aload 0, .getstatic 727, .aload 0, .getstatic 733, .iconst 4, .iaload, .iaload, .ifCond .le 127, .aload 0, .invokevirtual 1141954, .aload 0, .getstatic 733, .iconst 4, .aload 0, .aload 0, .getstatic 733, .iconst 4, .iaload, .invokevirtual 1649860, .iastore, .aload 0, .aload 0, .getstatic 726, .aload 0, .getstatic 733, .iconst 4, .iaload, .iaload, .iconst 100, .if_icmp .gt 113, .iload 2, .iconst 300, .if_icmp .ne 117, .goto_w 113]),
  (113, [.iconst 3, .goto 118]),
  (117, [.iconst 0, .goto_w 118]),
  (118, [.multianewarray 11 0, .iinc 2 1, .goto 48]),
  (127, [.aload 0, .getstatic 733, .iload 1, .aload 0, .invokeinterface 11 0, .ifCond .ne 148, .aload 0, .getstatic 733, .iconst 4, .iaload, .goto 154]),
  (148, [.aload 0, .getstatic 733, .iload 1, .iaload, .goto_w 154]),
  (154, [.iastore, .aload 0, .getstatic 733, .iconst 4, .iconst (-1), .iastore, .aload 0, .invokeinterface 11 0, .ifCond .ne 173, .iload 2, .goto 174]),
  (173, [.iconst 0, .goto_w 174]),
  (174, [.ireturn])]
def am_m106 : List (Nat × List am_I) := [(0, [.aload 0, .iload 1, .invokestatic 1179682, .iconst 0, .invokevirtual 601190, .ifCond .eq 25, .aload 0, .aload 0, .getstatic 733, .iload 1, .iaload, .invokevirtual 1109060, .goto 26]),
  (25, [.iconst 0, .goto_w 26]),
  (26, [.ireturn])]
def am_m107 : List (Nat × List am_I) := [(0, [.aload 0, .iload 1, .invokestatic 1179682, .iconst 0, .invokevirtual 601190, .ifCond .eq 25, .aload 0, .aload 0, .getstatic 733, .iload 1, .iaload, .invokevirtual 1125444, .goto 26]),
  (25, [.iconst 0, .goto_w 26]),
  (26, [.ireturn])]
def am_m108 : List (Nat × List am_I) := [(0, [.iload 1, .istore 3, .iload 2, .istore 4, .goto_w 5]),
  (5, [.iload 4, .ifCond .le 65, .iinc 4 (-1), .iload 4, .aload 0, .getstatic 726, .aload 0, .getstatic 724, .iload 3, .iaload, .iaload, .if_icmp .ge 39, .aload 0, .getstatic 724, .iload 3, .iaload, .istore 3, .goto 5]),
  (39, [.iload 4, .aload 0, .getstatic 726, .aload 0, .getstatic 724, .iload 3, .iaload, .iaload, .isub, .istore 4, .aload 0, .getstatic 725, .iload 3, .iaload, .istore 3, .goto 5]),
  (65, [.iload 3, .ireturn])]
def am_m109 : List (Nat × List am_I) := [(0, [.aload 0, .iload 1, .invokestatic 1179682, .ifCond .ne 17, .iload 3, .ifCond .lt 17, .iload 3, .iconst 3, .if_icmp .le 21, .goto_w 17]),
  (17, [.iconst 1, .goto 22]),
  (21, [.iconst 0, .goto_w 22]),
  (22, [.iload 1, .invokestatic 1179682, .ifCond .ne 51, .iload 2, .ifCond .lt 47, .iload 2, .aload 0, .aload 0, .getstatic 733, .iload 1, .iaload, .invokevirtual 1109060, .if_icmp .lt 51, .goto_w 47]),
  (47, [.iconst 1, .goto 52]),
  (51, [.iconst 0, .goto_w 52]),
  (52, [.invokevirtual 601190, .ifCond .ne 60, .iconst 0, .ireturn]),
  (60, [.aload 0, .aload 0, .getstatic 733, .iload 1, .iaload, .iload 2, .invokevirtual 1780902, .istore 4, .iload 3, .ifCond .ne 87, .aload 0, .getstatic 722, .iload 4, .iaload, .goto 124]),
  (87, [.iload 3, .iconst 1, .if_icmp .ne 102, .aload 0, .getstatic 723, .iload 4, .iaload, .goto 124]),
  (102, [.iload 3, .iconst 2, .if_icmp .ne 117, .aload 0, .getstatic 728, .iload 4, .iaload, .goto 124]),
  (117, [.aload 0, .getstatic 726, .iload 4, .iaload, .goto_w 124]),
  (124, [.ireturn])]
def am_m110 : List (Nat × List am_I) := [(0, [.aload 0, .iload 1, .invokestatic 1179682, .iload 1, .invokestatic 1179682, .ifCond .ne 34, .iload 2, .ifCond .lt 30, .iload 2, .aload 0, .aload 0, .getstatic 733, .iload 1, .iaload, .invokevirtual 1109060, .if_icmp .lt 34, .goto_w 30]),
  (30, [.iconst 1, .goto 35]),
  (34, [.iconst 0, .goto_w 35]),
  (35, [.invokevirtual 601190, .ifCond .ne 43, .iconst 0, .ireturn]),
  (43, [.aload 0, .aload 0, .getstatic 733, .iload 1, .iaload, .iload 2, .invokevirtual 1780902, .istore 4, .iload 3, .ifCond .lt 86, .iload 3, .aload 0, .getstatic 728, .iload 4, .iaload, .if_icmp .ge 86, .aload 0, .getstatic 729, .iconst 24, .iload 4, .imul, .iload 3, .iadd, .iaload, .goto 87]),
  (86, [.iconst (-1), .goto_w 87]),
  (87, [.ireturn])]
def am_m111 : List (Nat × List am_I) := [(0, [.aload 0, .getstatic 513, .invokevirtual 2382882, .aload 0, .getstatic 513, .iconst 0, .iconst (-1), .invokevirtual 2415750, .istore 2, .aload 0, .getstatic 513, .iload 2, .invokevirtual 2268228, .getstatic 384, .aload 1, .invokevirtual 2806852, .aload 0, .iload 2, .iconst 0, .invokevirtual 1843366, .freturn])]
def am_m112 : List (Nat × List am_I) := [(0, [.iload 2, .iconst 20, .if_icmp .gt 16, .aload 0, .getstatic 513, .invokevirtual 2251810, .ifCond .eq 18, .goto_w 16]),
  (16, [.iconst 0, .freturn]),
  (18, [.aload 0, .getstatic 513, .iload 1, .invokevirtual 2268228, .getstatic 384, .iconst 17, .invokevirtual 2790500, .istore 3, .iload 3, .iconst (-1), .if_icmp .eq 50, .aload 0, .iload 1, .iload 3, .iload 2, .invokevirtual 1859784, .goto 72]),
  (50, [.aload 0, .iload 1, .invokevirtual 1876100, .ifCond .ne 67, .aload 0, .iload 1, .iload 2, .invokevirtual 1892582, .ifCond .eq 71, .goto_w 67]),
  (67, [.iconst 1, .goto 72]),
  (71, [.iconst 0, .goto_w 72]),
  (72, [.istore 4, .iload 4, .ifCond .eq 87, .aload 0, .getstatic 513, .iload 1, .invokevirtual 2432068, .goto_w 87]),
  (87, [.iload 4, .freturn])]
def am_m113 : List (Nat × List am_I) := [(0, [.iload 2, .iconst 19, .if_icmp .ne 15, .aload 0, .iload 1, .iconst 2, .iload 2, .invokevirtual 1941640, .iconst 1, .freturn]),
  (15, [.iload 2, .iconst 17, .if_icmp .ne 37, .aload 0, .iload 1, .iconst 3, .iload 2, .invokevirtual 1941640, .aload 0, .iload 1, .iconst (-1), .iconst (-1), .iload 3, .invokevirtual 1958122, .freturn]),
  (37, [.aload 0, .getstatic 512, .iload 2, .invokevirtual 2082884, .istore 4, .aload 0, .getstatic 512, .iload 2, .invokevirtual 2099268, .istore 5, .aload 0, .getstatic 512, .iload 2, .invokevirtual 2066500, .iconst 1, .if_icmp .ne 87, .aload 0, .iload 1, .iconst 4, .iload 2, .invokevirtual 1941640, .aload 0, .iload 1, .iload 4, .iload 5, .iload 3, .invokevirtual 1958122, .freturn]),
  (87, [.aload 0, .iload 1, .iconst 5, .iload 2, .invokevirtual 1941640, .aload 0, .iload 1, .iload 4, .iconst (-1), .iload 3, .invokevirtual 1958122, .ifCond .eq 122, .aload 0, .iload 1, .iload 5, .iconst (-1), .iload 3, .invokevirtual 1958122, .ifCond .eq 122, .iconst 1, .goto 123]),
  (122, [.iconst 0, .goto_w 123]),
  (123, [.freturn])]
def am_m114 : List (Nat × List am_I) := [(0, [.aload 0, .getstatic 513, .iload 1, .invokevirtual 2268228, .getstatic 384, .astore 2, .aload 2, .iconst 0, .invokevirtual 2675780, .istore 3, .aload 2, .invokevirtual 2659362, .iconst 1, .if_icmp .ne 41, .iload 3, .iconst 16, .if_icmp .ne 41, .aload 0, .iload 1, .iconst 1, .iload 3, .invokevirtual 1941640, .iconst 1, .freturn]),
  (41, [.aload 2, .invokevirtual 2659362, .iconst 2, .if_icmp .ne 81, .iload 3, .iconst 16, .if_icmp .ge 81, .iload 3, .iconst 1, .iand, .ifCond .ne 81, .aload 2, .iconst 1, .invokevirtual 2675780, .iload 3, .iconst 1, .iadd, .if_icmp .ne 81, .aload 0, .iload 1, .iconst 0, .iload 3, .invokevirtual 1941640, .iconst 1, .freturn]),
  (81, [.iconst 0, .freturn])]
def am_m115 : List (Nat × List am_I) := [(0, [.aload 0, .getstatic 513, .iload 1, .invokevirtual 2268228, .getstatic 384, .astore 3, .aload 0, .getstatic 514, .aload 3, .invokevirtual 2172036, .ifCond .eq 25, .iconst 0, .freturn]),
  (25, [.iconst 0, .istore 4, .goto_w 28]),
  (28, [.iload 4, .aload 3, .invokevirtual 2659362, .if_icmp .ge 114, .aload 3, .iload 4, .invokevirtual 2675780, .istore 5, .iload 5, .aload 3, .iload 4, .iconst 1, .isub, .invokevirtual 2675780, .if_icmp .ne 62, .iconst (-1), .goto 71]),
  (62, [.aload 0, .getstatic 512, .iload 5, .invokevirtual 2066500, .goto_w 71]),
  (71, [.istore 6, .iload 6, .iconst 2, .if_icmp .ne 90, .aload 0, .iload 1, .iload 5, .iload 2, .invokevirtual 1908872, .ifCond .ne 106, .goto_w 90]),
  (90, [.iload 6, .ifCond .ne 108, .aload 0, .iload 1, .iload 5, .iload 2, .invokevirtual 1925320, .ifCond .eq 108, .goto_w 106]),
  (106, [.iconst 1, .freturn]),
  (108, [.iinc 4 1, .goto 28]),
  (114, [.aload 0, .getstatic 514, .aload 3, .invokevirtual 2188420, .iconst 0, .freturn])]
def am_m116 : List (Nat × List am_I) := [(0, [.aload 0, .iload 1, .iconst 6, .iload 2, .invokevirtual 1941640, .aload 0, .iload 1, .aload 0, .getstatic 512, .iload 2, .invokevirtual 2082884, .iconst (-1), .iload 3, .invokevirtual 1958122, .ifCond .eq 28, .iconst 1, .freturn]),
  (28, [.aload 0, .iload 1, .iconst 7, .iload 2, .invokevirtual 1941640, .aload 0, .iload 1, .aload 0, .getstatic 512, .iload 2, .invokevirtual 2099268, .iconst (-1), .iload 3, .invokevirtual 1958122, .freturn])]
def am_m117 : List (Nat × List am_I) := [(0, [.iconst 1, .aload 0, .getstatic 513, .iload 1, .invokevirtual 2268228, .getstatic 384, .invokevirtual 2659362, .iconst 1, .isub, .ishl, .istore 4, .iconst 0, .istore 5, .goto_w 23]),
  (23, [.iload 5, .iload 4, .if_icmp .ge 86, .aload 0, .iload 1, .iconst 8, .iload 2, .invokevirtual 1941640, .aload 0, .iload 1, .aload 0, .getstatic 512, .iload 2, .invokevirtual 2082884, .iload 5, .iload 3, .invokevirtual 1974506, .ifCond .eq 80, .aload 0, .iload 1, .aload 0, .getstatic 512, .iload 2, .invokevirtual 2099268, .iload 5, .iconst (-1), .ixor, .iload 3, .invokevirtual 1974506, .ifCond .eq 80, .iconst 1, .freturn]),
  (80, [.iinc 5 1, .goto 23]),
  (86, [.iconst 0, .freturn])]
def am_m118 : List (Nat × List am_I) := [(0, [.aload 0, .getstatic 513, .iload 1, .iconst 1, .iadd, .invokevirtual 2399300, .aload 0, .getstatic 513, .iload 1, .invokevirtual 2268228, .iload 2, .multianewarray 6 1, .aload 0, .getstatic 513, .iload 1, .invokevirtual 2268228, .iload 3, .multianewarray 6 2, .return_])]
def am_m119 : List (Nat × List am_I) := [(0, [.aload 0, .getstatic 513, .iconst 0, .iconst (-1), .invokevirtual 2415750, .istore 5, .aload 0, .getstatic 513, .iload 5, .invokevirtual 2268228, .getstatic 384, .astore 6, .aload 6, .aload 0, .getstatic 513, .iload 1, .invokevirtual 2268228, .getstatic 384, .aload 0, .getstatic 513, .iload 1, .invokevirtual 2268228, .invokeinterface 6 2, .invokevirtual 2823334, .pop, .iload 2, .iconst (-1), .if_icmp .eq 64, .aload 6, .iload 2, .invokevirtual 2708580, .goto_w 64]),
  (64, [.iload 3, .iconst (-1), .if_icmp .eq 75, .aload 6, .iload 3, .invokevirtual 2708580, .goto_w 75]),
  (75, [.aload 0, .iload 5, .iload 4, .iconst 1, .iadd, .invokevirtual 1843366, .freturn])]
def am_m120 : List (Nat × List am_I) := [(0, [.aload 0, .getstatic 513, .iconst 0, .iconst (-1), .invokevirtual 2415750, .istore 5, .aload 0, .getstatic 513, .iload 5, .invokevirtual 2268228, .getstatic 384, .astore 6, .aload 6, .aload 0, .getstatic 513, .iload 1, .invokevirtual 2268228, .getstatic 384, .aload 0, .getstatic 513, .iload 1, .invokevirtual 2268228, .invokeinterface 6 2, .invokevirtual 2823334, .pop, .aload 6, .iload 3, .invokevirtual 2757764, .aload 6, .iload 2, .invokevirtual 2708580, .aload 0, .iload 5, .iload 4, .iconst 1, .iadd, .invokevirtual 1843366, .freturn])]
def am_m121 : List (Nat × List am_I) := [(0, [.aload 0, .invokeinterface 2 4, .ireturn])]
def am_m122 : List (Nat × List am_I) := [(0, [.iload 1, .ifCond .lt 16, .iload 1, .aload 0, .invokeinterface 2 4, .if_icmp .ge 16, .iconst 1, .goto 17]),
  (16, [.iconst 0, .goto_w 17]),
  (17, [.freturn])]
def am_m123 : List (Nat × List am_I) := [(0, [.iload 1, .iconst 20, .if_icmp .lt 18, .iload 1, .aload 0, .invokeinterface 2 4, .if_icmp .ge 18, .iconst 1, .goto 19]),
  (18, [.iconst 0, .goto_w 19]),
  (19, [.freturn])]
def am_m124 : List (Nat × List am_I) := [(0, [.aload 0, .iload 1, .invokevirtual 2017348, .ifCond .eq 17, .aload 0, .getstatic 131, .iload 1, .iaload, .goto 18]),
  (17, [.iconst 1, .goto_w 18]),
  (18, [.ireturn])]
def am_m125 : List (Nat × List am_I) := [(0, [.iconst 0, .istore 2, .iconst 0, .istore 3, .goto_w 4]),
  (4, [.iload 3, .aload 1, .invokevirtual 2659362, .if_icmp .ge 30, .iload 2, .aload 0, .aload 1, .iload 3, .invokevirtual 2675780, .invokevirtual 2033732, .iadd, .istore 2, .iinc 3 1, .goto 4]),
  (30, [.iload 2, .ireturn])]
def am_m126 : List (Nat × List am_I) := [(0, [.aload 0, .iload 1, .invokevirtual 2017348, .ifCond .eq 17, .aload 0, .getstatic 128, .iload 1, .iaload, .goto 18]),
  (17, [.iconst (-1), .goto_w 18]),
  (18, [.ireturn])]
def am_m127 : List (Nat × List am_I) := [(0, [.aload 0, .iload 1, .invokevirtual 2017348, .ifCond .eq 17, .aload 0, .getstatic 129, .iload 1, .iaload, .goto 18]),
  (17, [.iconst (-1), .goto_w 18]),
  (18, [.ireturn])]
def am_m128 : List (Nat × List am_I) := [(0, [.aload 0, .iload 1, .invokevirtual 2017348, .ifCond .eq 17, .aload 0, .getstatic 130, .iload 1, .iaload, .goto 18]),
  (17, [.iconst (-1), .goto_w 18]),
  (18, [.ireturn])]
def am_m129 : List (Nat × List am_I) := [(0, [.iconst 20, .istore 4, .goto_w 4]),
  (4, [.iload 4, .aload 0, .invokeinterface 2 4, .if_icmp .ge 55, .aload 0, .getstatic 128, .iload 4, .iaload, .iload 1, .if_icmp .ne 49, .aload 0, .getstatic 129, .iload 4, .iaload, .iload 2, .if_icmp .ne 49, .aload 0, .getstatic 130, .iload 4, .iaload, .iload 3, .if_icmp .ne 49, .iload 4, .ireturn]),
  (49, [.iinc 4 1, .goto 4]),
  (55, [.aload 0, .iload 2, .invokevirtual 2033732, .aload 0, .iload 3, .invokevirtual 2033732, .iadd, .istore 4, .iload 4, .iconst 8, .if_icmp .gt 86, .aload 0, .invokeinterface 2 4, .iconst 2, .iadd, .iconst 80, .if_icmp .le 88, .goto_w 86]),
  (86, [.iconst (-1), .ireturn]),
  (88, [.aload 0, .invokeinterface 2 4, .iload 1, .iconst 1, .iand, .iadd, .istore 5, .aload 0, .iload 5, .iload 1, .iload 2, .iload 3, .iload 4, .invokevirtual 2148556, .aload 0, .iload 5, .iconst 1, .ixor, .iload 1, .iconst 1, .ixor, .iload 2, .iconst 1, .ixor, .iload 3, .iconst 1, .ixor, .iload 4, .invokevirtual 2148556, .aload 0, .dup, .invokeinterface 2 4, .iconst 2, .iadd, .multianewarray 2 4, .iload 5, .ireturn])]
def am_m130 : List (Nat × List am_I) := [(0, [.aload 0, .iconst 20, .aload 0, .invokeinterface 2 4, .iload 1, .invokedynamic 3, .invokedynamic 2, .multianewarray 2 4, .return_])]
def am_m131 : List (Nat × List am_I) := [(0, [.aload 0, .getstatic 128, .iload 1, .iload 2, .iastore, .aload 0, .getstatic 129, .iload 1, .iload 3, .iastore, .aload 0, .getstatic 130, .iload 1, .iload 4, .iastore, .aload 0, .getstatic 131, .iload 1, .iload 5, .iastore, .return_])]
def am_m132 : List (Nat × List am_I) := [(0, [.aload 1, .invokestatic 2195586, .lstore 2, .aload 0, .getstatic 576, .lload 2, .invokestatic 2211906, .laload, .lload 2, .lcmp, .ifCond .ne 23, .iconst 1, .goto 24]),
  (23, [.iconst 0, .goto_w 24]),
  (24, [.freturn])]
def am_m133 : List (Nat × List am_I) := [(0, [.aload 1, .invokestatic 2195586, .lstore 2, .aload 0, .getstatic 576, .lload 2, .invokestatic 2211906, .lload 2, .lastore, .return_])]
def am_m134 : List (Nat × List am_I) := [(0, [.jsr_w 1, .lstore 1, .iconst 0, .istore 3, .goto_w 4]),
  (4, [.iload 3, .aload 0, .invokevirtual 2659362, .if_icmp .ge 30, .lload 1, .iconst 7, .lshl, .aload 0, .iload 3, .invokevirtual 2675780, .i2l, .lor, .lstore 1, .iinc 3 1, .goto 4]),
  (30, [.lload 1, .lreturn])]
def am_m135 : List (Nat × List am_I) := [(0, [.lload 0, .jsr_w (-7046029254386353131), .lmul, .iconst 54, .lushr, .l2i, .ireturn])]
def am_m136 : List (Nat × List am_I) := [(0, [.aload 0, .invokeinterface 7 1, .ireturn])]
def am_m137 : List (Nat × List am_I) := [(0, [.aload 0, .invokeinterface 7 2, .freturn])]
def am_m138 : List (Nat × List am_I) := [(0, [.aload 0, .getstatic 448, .iload 1, .ifCond .lt 18, .iload 1, .iconst 100, .if_icmp .ge 18, .iload 1, .goto 20]),
  (18, [.iconst 100, .goto_w 20]),
  (20, [.aaload, .areturn])]
def am_m139 : List (Nat × List am_I) := [(0, [.aload 0, .iconst 0, .invokevirtual 2268228, .getstatic 384, .areturn])]
def am_m140 : List (Nat × List am_I) := [(0, [.iload 1, .iconst 1, .iadd, .ireturn])]
def am_m141 : List (Nat × List am_I) := [(0, [.iload 1, .iconst 1, .iadd, .aload 0, .iload 1, .iconst 1, .iadd, .invokevirtual 2268228, .invokeinterface 6 3, .iadd, .ireturn])]
def am_m142 : List (Nat × List am_I) := [(0, [.iload 1, .aload 0, .iload 1, .invokevirtual 2268228, .invokeinterface 6 3, .iadd, .ireturn])]
def am_m143 : List (Nat × List am_I) := [(0, [.iconst 0, .istore 1, .iconst 0, .istore 2, .goto_w 4]),
  (4, [.iload 2, .aload 0, .invokeinterface 7 1, .if_icmp .ge 35, .aload 0, .getstatic 448, .iload 2, .aaload, .invokeinterface 6 1, .iconst 9, .if_icmp .ne 29, .iinc 1 1, .goto_w 29]),
  (29, [.iinc 2 1, .goto 4]),
  (35, [.iload 1, .ireturn])]
def am_m144 : List (Nat × List am_I) := [(0, [.iconst (-1), .istore 1, .aload 0, .invokeinterface 7 1, .istore 2, .iconst 0, .istore 3, .goto_w 9]),
  (9, [.iload 3, .aload 0, .invokeinterface 7 1, .if_icmp .ge 50, .iload 3, .iload 2, .if_icmp .ge 50, .aload 0, .getstatic 448, .iload 3, .aaload, .invokeinterface 6 1, .iconst 9, .if_icmp .ne 44, .iload 3, .istore 1, .aload 0, .iload 3, .invokevirtual 2333764, .istore 2, .goto_w 44]),
  (44, [.iinc 3 1, .goto 9]),
  (50, [.iload 1, .ireturn])]
def am_m145 : List (Nat × List am_I) := [(0, [.aload 0, .iconst 0, .invokevirtual 2399300, .return_])]
def am_m146 : List (Nat × List am_I) := [(0, [.aload 0, .iconst 0, .aload 0, .invokeinterface 7 1, .iload 1, .invokedynamic 3, .invokedynamic 2, .multianewarray 7 1, .aload 0, .iconst 0, .instanceof 450, .return_])]
def am_m147 : List (Nat × List am_I) := [(0, [.aload 0, .invokevirtual 2513954, .istore 3, .aload 0, .getstatic 448, .iload 3, .aaload, .iload 1, .multianewarray 6 1, .aload 0, .getstatic 448, .iload 3, .aaload, .iload 2, .multianewarray 6 2, .aload 0, .getstatic 448, .iload 3, .aaload, .iconst 1, .multianewarray 6 3, .aload 0, .getstatic 448, .iload 3, .aaload, .getstatic 384, .invokevirtual 2692130, .iload 3, .ireturn])]
def am_m148 : List (Nat × List am_I) := [(0, [.aload 0, .iload 1, .invokevirtual 2268228, .aload 0, .invokeinterface 7 1, .iload 1, .isub, .multianewarray 6 3, .return_])]
def am_m149 : List (Nat × List am_I) := [(0, [.iconst 0, .iload 2, .invokedynamic 2, .istore 4, .goto_w 7]),
  (7, [.iload 4, .iload 3, .if_icmp .ge 102, .iload 4, .aload 1, .invokeinterface 7 1, .if_icmp .ge 102, .aload 0, .getstatic 448, .aload 0, .invokevirtual 2513954, .aaload, .astore 5, .aload 5, .aload 1, .getstatic 448, .iload 4, .aaload, .invokeinterface 6 1, .multianewarray 6 1, .aload 5, .aload 1, .getstatic 448, .iload 4, .aaload, .invokeinterface 6 2, .multianewarray 6 2, .aload 5, .aload 1, .getstatic 448, .iload 4, .aaload, .invokeinterface 6 3, .multianewarray 6 3, .aload 5, .getstatic 384, .aload 1, .getstatic 448, .iload 4, .aaload, .getstatic 384, .invokevirtual 2806852, .iinc 4 1, .goto 7]),
  (102, [.return_])]
def am_m150 : List (Nat × List am_I) := [(0, [.aload 0, .aload 1, .iconst 0, .aload 1, .invokeinterface 7 1, .invokevirtual 2448584, .return_])]
def am_m151 : List (Nat × List am_I) := [(0, [.aload 0, .invokevirtual 2382882, .aload 0, .aload 1, .invokevirtual 2464836, .return_])]
def am_m152 : List (Nat × List am_I) := [(0, [.iconst 0, .istore 3, .goto_w 2]),
  (2, [.iload 3, .iload 1, .if_icmp .ge 45, .iload 3, .aload 0, .invokeinterface 7 1, .if_icmp .ge 45, .aload 0, .iload 3, .invokevirtual 2333764, .iload 1, .if_icmp .le 39, .aload 0, .getstatic 448, .iload 3, .aaload, .dup, .invokeinterface 6 3, .iload 2, .iadd, .multianewarray 6 3, .goto_w 39]),
  (39, [.iinc 3 1, .goto 2]),
  (45, [.return_])]
def am_m153 : List (Nat × List am_I) := [(0, [.aload 0, .invokeinterface 7 1, .iconst 100, .if_icmp .lt 17, .aload 0, .iconst 1, .instanceof 450, .iconst 100, .ireturn]),
  (17, [.aload 0, .dup, .invokeinterface 7 1, .iconst 1, .iadd, .multianewarray 7 1, .aload 0, .invokeinterface 7 1, .iconst 1, .isub, .ireturn])]
def am_m154 : List (Nat × List am_I) := [(0, [.aload 0, .invokeinterface 3 2, .istore 3, .iconst 0, .istore 4, .goto_w 8]),
  (8, [.iload 4, .iconst 8, .if_icmp .ge 77, .lload 1, .iconst 8, .iload 4, .imul, .lushr, .l2i, .iconst 255, .iand, .istore 5, .iload 5, .ifCond .ne 37, .goto 77]),
  (37, [.iload 5, .iconst 33, .if_icmp .lt 57, .iload 5, .iconst 126, .if_icmp .gt 57, .iload 3, .iconst 60, .if_icmp .lt 59, .goto_w 57]),
  (57, [.iconst 0, .freturn]),
  (59, [.aload 0, .getstatic 193, .iload 3, .iload 5, .i2c, .castore, .iinc 3 1, .iinc 4 1, .goto 8]),
  (77, [.aload 0, .iload 3, .multianewarray 3 2, .iconst 1, .freturn])]
def am_m155 : List (Nat × List am_I) := [(0, [.aload 0, .getstatic 192, .invokevirtual 1984546, .istore 1, .aload 0, .invokevirtual 2559042, .istore 2, .aload 0, .iconst 0, .multianewarray 3 2, .iload 2, .iconst (-1), .if_icmp .ne 35, .aload 0, .invokeinterface 3 10, .ifCond .ne 35, .aload 0, .invokeinterface 3 8, .ireturn]),
  (35, [.aload 0, .getstatic 192, .iload 1, .invokevirtual 2132036, .iload 2, .iconst (-1), .if_icmp .ne 53, .iconst (-100), .goto 56]),
  (53, [.iconst (-1), .iload 2, .isub, .goto_w 56]),
  (56, [.ireturn])]
def am_m156 : List (Nat × List am_I) := [(0, [.aload 0, .iconst 0, .multianewarray 3 6, .aload 0, .iconst 0, .multianewarray 3 7, .aload 0, .iconst 0, .instanceof 201, .aload 0, .iconst 0, .instanceof 202, .iconst 0, .istore 1, .goto_w 22]),
  (22, [.iload 1, .aload 0, .invokeinterface 3 2, .if_icmp .ge 74, .aload 0, .invokeinterface 3 9, .ifCond .eq 53, .aload 0, .aload 0, .getstatic 193, .iload 1, .caload, .invokevirtual 2608228, .ifCond .eq 66, .goto 68]),
  (53, [.aload 0, .aload 0, .getstatic 193, .iload 1, .caload, .invokevirtual 2575460, .ifCond .ne 68, .goto_w 66]),
  (66, [.iload 1, .ireturn]),
  (68, [.iinc 1 1, .goto 22]),
  (74, [.aload 0, .invokeinterface 3 9, .ifCond .eq 92, .aload 0, .invokeinterface 3 6, .ifCond .ne 92, .iconst (-1), .goto 96]),
  (92, [.aload 0, .invokeinterface 3 2, .goto_w 96]),
  (96, [.ireturn])]
def am_m157 : List (Nat × List am_I) := [(0, [.iload 1, .iconst 126, .if_icmp .ne 18, .aload 0, .dup, .invokeinterface 3 7, .iconst 1, .ixor, .multianewarray 3 7, .iconst 1, .freturn]),
  (18, [.iload 1, .iconst 40, .if_icmp .ne 29, .aload 0, .invokevirtual 2591778, .freturn]),
  (29, [.iload 1, .invokestatic 2637890, .istore 2, .iload 2, .iconst (-1), .if_icmp .ne 41, .iconst 0, .freturn]),
  (41, [.aload 0, .iload 2, .aload 0, .invokeinterface 3 7, .ixor, .multianewarray 3 8, .aload 0, .iconst 1, .instanceof 201, .iconst 1, .freturn])]
def am_m158 : List (Nat × List am_I) := [(0, [.aload 0, .invokeinterface 3 6, .iconst 8, .if_icmp .lt 11, .iconst 0, .freturn]),
  (11, [.aload 0, .getstatic 195, .aload 0, .invokeinterface 3 6, .aload 0, .invokeinterface 3 7, .iastore, .aload 0, .getstatic 197, .aload 0, .invokeinterface 3 6, .iconst (-1), .iastore, .aload 0, .dup, .invokeinterface 3 6, .iconst 1, .iadd, .multianewarray 3 6, .aload 0, .iconst 0, .multianewarray 3 7, .iconst 1, .freturn])]
def am_m159 : List (Nat × List am_I) := [(0, [.aload 0, .invokeinterface 3 6, .ifCond .ne 9, .iconst 0, .freturn]),
  (9, [.aload 0, .invokeinterface 3 6, .iconst 1, .isub, .istore 2, .aload 0, .getstatic 197, .iload 2, .iaload, .iconst (-1), .if_icmp .eq 46, .iload 1, .iconst 41, .if_icmp .ne 44, .aload 0, .iload 2, .invokevirtual 2624612, .ifCond .eq 44, .iconst 1, .goto 45]),
  (44, [.iconst 0, .goto_w 45]),
  (45, [.freturn]),
  (46, [.aload 0, .getstatic 197, .iload 2, .ldc 0, .iload 1, .invokedynamic 0, .iastore, .aload 0, .getstatic 196, .iload 2, .aload 0, .invokeinterface 3 8, .iastore, .aload 0, .iconst 0, .multianewarray 3 7, .aload 0, .iconst 0, .instanceof 201, .aload 0, .getstatic 197, .iload 2, .iaload, .iconst (-1), .if_icmp .eq 92, .iconst 1, .goto 93]),
  (92, [.iconst 0, .goto_w 93]),
  (93, [.freturn])]
def am_m160 : List (Nat × List am_I) := [(0, [.aload 0, .getstatic 192, .aload 0, .getstatic 197, .iload 1, .iaload, .aload 0, .getstatic 196, .iload 1, .iaload, .aload 0, .invokeinterface 3 8, .invokevirtual 2115784, .istore 2, .iload 2, .iconst (-1), .if_icmp .ne 36, .aload 0, .iconst 1, .instanceof 202, .iconst 0, .istore 2, .goto_w 36]),
  (36, [.aload 0, .iload 2, .aload 0, .getstatic 195, .iload 1, .iaload, .ixor, .multianewarray 3 8, .aload 0, .iload 1, .multianewarray 3 6, .iconst 1, .freturn])]
def am_m161 : List (Nat × List am_I) := [(0, [.iload 0, .iconst 97, .if_icmp .lt 19, .iload 0, .iconst 105, .if_icmp .ge 19, .iconst 2, .iload 0, .iconst 97, .isub, .imul, .ireturn]),
  (19, [.ldc 1, .iload 0, .invokedynamic 0, .istore 1, .iload 1, .ifCond .ge 34, .iconst (-1), .goto 38]),
  (34, [.iconst 16, .iload 1, .iadd, .goto_w 38]),
  (38, [.ireturn])]
def am_m162 : List (Nat × List am_I) := [(0, [.aload 0, .invokeinterface 5 1, .ireturn])]
def am_m163 : List (Nat × List am_I) := [(0, [.iload 1, .ifCond .lt 21, .iload 1, .aload 0, .invokeinterface 5 1, .if_icmp .ge 21, .aload 0, .getstatic 320, .iload 1, .iaload, .goto 22]),
  (21, [.iconst (-1), .goto_w 22]),
  (22, [.ireturn])]
def am_m164 : List (Nat × List am_I) := [(0, [.aload 0, .iconst 0, .multianewarray 5 1, .return_])]
def am_m165 : List (Nat × List am_I) := [(0, [.aload 0, .invokeinterface 5 1, .iconst 20, .if_icmp .lt 10, .return_]),
  (10, [.aload 0, .invokeinterface 5 1, .istore 2, .goto_w 15]),
  (15, [.iload 2, .ifCond .le 51, .aload 0, .getstatic 320, .iload 2, .iconst 1, .isub, .iaload, .iload 1, .if_icmp .le 51, .aload 0, .getstatic 320, .iload 2, .aload 0, .getstatic 320, .iload 2, .iconst 1, .isub, .iaload, .iastore, .iinc 2 (-1), .goto 15]),
  (51, [.aload 0, .getstatic 320, .iload 2, .iload 1, .iastore, .aload 0, .dup, .invokeinterface 5 1, .iconst 1, .iadd, .multianewarray 5 1, .return_])]
def am_m166 : List (Nat × List am_I) := [(0, [.iconst 0, .istore 2, .goto_w 2]),
  (2, [.iload 2, .aload 1, .invokeinterface 5 1, .if_icmp .ge 26, .aload 0, .aload 1, .getstatic 320, .iload 2, .iaload, .invokevirtual 2708580, .iinc 2 1, .goto 2]),
  (26, [.return_])]
def am_m167 : List (Nat × List am_I) := [(0, [.iconst 0, .istore 2, .goto_w 2]),
  (2, [.iload 2, .aload 0, .invokeinterface 5 1, .if_icmp .ge 59, .aload 0, .getstatic 320, .iload 2, .iaload, .iload 1, .if_icmp .ne 53, .aload 0, .dup, .invokeinterface 5 1, .iconst 1, .isub, .multianewarray 5 1, .aload 0, .getstatic 320, .iload 2, .iconst 1, .iadd, .aload 0, .getstatic 320, .iload 2, .aload 0, .invokeinterface 5 1, .iload 2, .isub, .invokedynamic 4, .iconst 1, .freturn]),
  (53, [.iinc 2 1, .goto 2]),
  (59, [.iconst 0, .freturn])]
def am_m168 : List (Nat × List am_I) := [(0, [.iconst 0, .istore 2, .iconst 0, .istore 3, .goto_w 4]),
  (4, [.iload 3, .aload 0, .invokeinterface 5 1, .if_icmp .ge 42, .iload 1, .iload 3, .ishr, .iconst 1, .iand, .iconst 1, .if_icmp .ne 36, .aload 0, .getstatic 320, .iload 2, .aload 0, .getstatic 320, .iload 3, .iaload, .iastore, .iinc 2 1, .goto_w 36]),
  (36, [.iinc 3 1, .goto 4]),
  (42, [.aload 0, .iload 2, .multianewarray 5 1, .return_])]
def am_m169 : List (Nat × List am_I) := [(0, [.iconst 0, .istore 2, .iconst 0, .istore 3, .goto_w 4]),
  (4, [.iload 3, .aload 0, .invokeinterface 5 1, .if_icmp .ge 31, .aload 0, .getstatic 320, .iload 3, .iaload, .iload 1, .if_icmp .ne 25, .iinc 2 1, .goto_w 25]),
  (25, [.iinc 3 1, .goto 4]),
  (31, [.iload 2, .ireturn])]
def am_m170 : List (Nat × List am_I) := [(0, [.iconst 0, .istore 2, .goto_w 2]),
  (2, [.iload 2, .aload 0, .invokeinterface 5 1, .if_icmp .ge 45, .aload 0, .getstatic 320, .iload 2, .iaload, .iload 1, .if_icmp .lt 39, .aload 0, .getstatic 320, .iload 2, .iaload, .iconst 1, .iand, .iconst 1, .if_icmp .ne 39, .aload 0, .getstatic 320, .iload 2, .iaload, .ireturn]),
  (39, [.iinc 2 1, .goto 2]),
  (45, [.iconst (-1), .ireturn])]
def am_m171 : List (Nat × List am_I) := [(0, [.aload 0, .aload 1, .invokeinterface 5 1, .multianewarray 5 1, .aload 1, .getstatic 320, .iconst 0, .aload 0, .getstatic 320, .iconst 0, .aload 0, .invokeinterface 5 1, .invokedynamic 4, .return_])]
def am_m172 : List (Nat × List am_I) := [(0, [.iconst 0, .istore 3, .aload 0, .iconst 0, .multianewarray 5 1, .iconst 0, .istore 4, .goto_w 10]),
  (10, [.iload 4, .aload 1, .invokeinterface 5 1, .if_icmp .ge 71, .iload 3, .ifCond .ne 39, .aload 1, .getstatic 320, .iload 4, .iaload, .iload 2, .if_icmp .ne 39, .iconst 1, .istore 3, .goto 65]),
  (39, [.aload 0, .getstatic 320, .aload 0, .invokeinterface 5 1, .aload 1, .getstatic 320, .iload 4, .iaload, .iastore, .aload 0, .dup, .invokeinterface 5 1, .iconst 1, .iadd, .multianewarray 5 1, .goto_w 65]),
  (65, [.iinc 4 1, .goto 10]),
  (71, [.iload 3, .freturn])]
def am_m173 : List (Nat × List am_I) := [(0, [.aload 0, .invokeinterface 5 1, .aload 1, .invokeinterface 5 1, .if_icmp .eq 13, .iconst 0, .freturn]),
  (13, [.iconst 0, .istore 2, .goto_w 15]),
  (15, [.iload 2, .aload 0, .invokeinterface 5 1, .if_icmp .ge 46, .aload 0, .getstatic 320, .iload 2, .iaload, .aload 1, .getstatic 320, .iload 2, .iaload, .if_icmp .eq 40, .iconst 0, .freturn]),
  (40, [.iinc 2 1, .goto 15]),
  (46, [.iconst 1, .freturn])]
def am_m174 : List (Nat × List am_I) := [(0, [.aload 0, .getstatic 643, .aload 1, .invokevirtual 2481220, .return_])]
def am_m175 : List (Nat × List am_I) := [(0, [.aload 0, .getstatic 643, .areturn])]
def am_m176 : List (Nat × List am_I) := [(0, [.aload 0, .getstatic 643, .invokevirtual 2366594, .istore 1, .iload 1, .iconst (-1), .if_icmp .ne 15, .iconst 0, .freturn]),
  (15, [.aload 0, .getstatic 642, .astore 2, .aload 0, .aload 0, .getstatic 643, .putstatic 2, .aload 0, .aload 2, .putstatic 3, .aload 0, .getstatic 643, .invokevirtual 2382882, .aload 0, .getstatic 643, .aload 0, .getstatic 642, .iconst 0, .iload 1, .invokevirtual 2448584, .aload 0, .iload 1, .invokevirtual 2910372, .aload 0, .getstatic 643, .aload 0, .getstatic 642, .aload 0, .getstatic 642, .iload 1, .invokevirtual 2333764, .aload 0, .getstatic 642, .invokevirtual 2235426, .invokevirtual 2448584, .aload 0, .getstatic 643, .iload 1, .aload 0, .getstatic 643, .invokevirtual 2235426, .aload 0, .getstatic 642, .invokevirtual 2235426, .isub, .invokevirtual 2497670, .iconst 1, .freturn])]
def am_m177 : List (Nat × List am_I) := [(0, [.aload 0, .getstatic 642, .iload 1, .invokevirtual 2268228, .invokeinterface 6 2, .istore 2, .aload 0, .getstatic 642, .iload 1, .invokevirtual 2300996, .istore 3, .aload 0, .getstatic 642, .iload 1, .invokevirtual 2317380, .istore 4, .aload 0, .getstatic 642, .iload 3, .invokevirtual 2268228, .invokeinterface 6 1, .ifCond .ne 70, .aload 0, .getstatic 643, .aload 0, .getstatic 642, .iload 4, .aload 0, .getstatic 642, .iload 4, .invokevirtual 2333764, .invokevirtual 2448584, .goto 190]),
  (70, [.aload 0, .getstatic 642, .iload 4, .invokevirtual 2268228, .invokeinterface 6 1, .ifCond .ne 108, .aload 0, .getstatic 643, .aload 0, .getstatic 642, .iload 3, .aload 0, .getstatic 642, .iload 3, .invokevirtual 2333764, .invokevirtual 2448584, .goto 190]),
  (108, [.aload 0, .getstatic 642, .iload 3, .invokevirtual 2268228, .invokeinterface 6 2, .iload 2, .if_icmp .eq 135, .aload 0, .iload 1, .iload 3, .iload 4, .iconst 1, .invokevirtual 2926922, .goto 190]),
  (135, [.aload 0, .getstatic 642, .iload 4, .invokevirtual 2268228, .invokeinterface 6 2, .iload 2, .iconst 1, .ixor, .if_icmp .eq 165, .aload 0, .iload 1, .iload 4, .iload 3, .iconst 0, .invokevirtual 2926922, .goto 190]),
  (165, [.iload 2, .iconst 1, .iand, .ifCond .ne 182, .aload 0, .iload 1, .iload 3, .iload 4, .invokevirtual 2959688, .goto 190]),
  (182, [.aload 0, .iload 1, .iload 4, .iload 3, .invokevirtual 2959688, .goto_w 190]),
  (190, [.return_])]
def am_m178 : List (Nat × List am_I) := [(0, [.aload 0, .getstatic 642, .iload 2, .invokevirtual 2268228, .astore 5, .aload 0, .getstatic 642, .iload 1, .invokevirtual 2268228, .invokeinterface 6 2, .istore 6, .aload 0, .getstatic 642, .iload 2, .invokevirtual 2300996, .istore 7, .aload 0, .getstatic 642, .iload 2, .invokevirtual 2317380, .istore 8, .aload 0, .getstatic 643, .aload 5, .invokeinterface 6 1, .aload 5, .invokeinterface 6 2, .invokevirtual 2415750, .istore 9, .aload 0, .getstatic 643, .iload 9, .invokevirtual 2268228, .getstatic 384, .aload 0, .getstatic 642, .iload 1, .invokevirtual 2268228, .getstatic 384, .invokevirtual 2806852, .aload 5, .invokeinterface 6 1, .iconst 5, .if_icmp .ne 122, .aload 0, .iload 6, .iload 7, .iload 3, .iload 4, .invokevirtual 2976042, .aload 0, .iload 6, .iload 8, .iload 3, .iload 4, .invokevirtual 2976042, .goto 269]),
  (122, [.aload 5, .invokeinterface 6 1, .iconst 8, .if_icmp .ne 203, .aload 0, .iload 7, .iload 4, .ifCond .eq 145, .iload 6, .goto 149]),
  (145, [.iload 6, .iconst 1, .ixor, .goto_w 149]),
  (149, [.aload 0, .getstatic 640, .aload 5, .invokeinterface 6 2, .invokevirtual 2082884, .invokevirtual 2943112, .ifCond .eq 203, .aload 0, .iload 6, .iload 7, .iload 3, .iload 4, .invokevirtual 2976042, .aload 0, .getstatic 643, .aload 0, .getstatic 642, .iload 8, .aload 0, .getstatic 642, .iload 8, .invokevirtual 2333764, .invokevirtual 2448584, .goto 269]),
  (203, [.aload 5, .invokeinterface 6 1, .iconst 8, .if_icmp .ne 249, .aload 0, .getstatic 643, .aload 0, .getstatic 642, .iload 7, .aload 0, .getstatic 642, .iload 7, .invokevirtual 2333764, .invokevirtual 2448584, .aload 0, .iload 6, .iload 8, .iload 3, .iload 4, .invokevirtual 2976042, .goto 269]),
  (249, [.aload 5, .invokeinterface 6 1, .iconst 2, .if_icmp .eq 269, .aload 0, .iload 6, .iload 7, .iload 3, .iload 4, .invokevirtual 2976042, .goto_w 269]),
  (269, [.aload 0, .getstatic 643, .iload 9, .invokevirtual 2432068, .return_])]
def am_m179 : List (Nat × List am_I) := [(0, [.aload 0, .getstatic 642, .iload 1, .invokevirtual 2268228, .getstatic 384, .iload 2, .invokevirtual 2774148, .iload 2, .iload 3, .if_icmp .ne 24, .iconst 1, .goto 25]),
  (24, [.iconst 0, .goto_w 25]),
  (25, [.if_icmp .le 32, .iconst 1, .goto 33]),
  (32, [.iconst 0, .goto_w 33]),
  (33, [.freturn])]
def am_m180 : List (Nat × List am_I) := [(0, [.aload 0, .getstatic 642, .iload 2, .invokevirtual 2268228, .astore 4, .aload 0, .getstatic 640, .aload 4, .invokeinterface 6 2, .invokevirtual 2082884, .istore 5, .aload 0, .getstatic 640, .aload 4, .invokeinterface 6 2, .invokevirtual 2099268, .istore 6, .aload 0, .getstatic 642, .iload 2, .invokevirtual 2300996, .istore 7, .aload 0, .getstatic 642, .iload 3, .invokevirtual 2300996, .istore 8, .aload 4, .invokeinterface 6 1, .iconst 1, .if_icmp .ne 92, .aload 0, .getstatic 643, .aload 0, .getstatic 642, .iload 8, .aload 0, .getstatic 642, .iload 8, .invokevirtual 2333764, .invokevirtual 2448584, .goto 233]),
  (92, [.aload 4, .invokeinterface 6 1, .iconst 6, .if_icmp .ne 116, .aload 0, .iload 5, .iload 7, .iload 8, .iconst 1, .invokevirtual 2976042, .goto 233]),
  (116, [.aload 4, .invokeinterface 6 1, .iconst 7, .if_icmp .ne 146, .aload 0, .iload 6, .iload 7, .aload 0, .getstatic 642, .iload 3, .invokevirtual 2317380, .iconst 1, .invokevirtual 2976042, .goto 233]),
  (146, [.aload 0, .getstatic 643, .iconst 9, .iload 5, .invokevirtual 2415750, .istore 9, .aload 0, .getstatic 643, .iload 9, .invokevirtual 2268228, .getstatic 384, .aload 0, .getstatic 642, .iload 1, .invokevirtual 2268228, .getstatic 384, .invokevirtual 2806852, .aload 0, .getstatic 643, .aload 0, .getstatic 642, .iload 7, .aload 0, .getstatic 642, .iload 7, .invokevirtual 2333764, .invokevirtual 2448584, .aload 0, .iload 6, .aload 0, .getstatic 642, .iload 2, .invokevirtual 2317380, .iload 8, .iconst 1, .invokevirtual 2976042, .aload 0, .getstatic 643, .iload 9, .invokevirtual 2432068, .goto_w 233]),
  (233, [.return_])]
def am_m181 : List (Nat × List am_I) := [(0, [.iload 4, .ifCond .eq 9, .iload 2, .goto 10]),
  (9, [.iload 3, .goto_w 10]),
  (10, [.istore 5, .iload 4, .ifCond .eq 21, .iload 3, .goto 22]),
  (21, [.iload 2, .goto_w 22]),
  (22, [.istore 6, .aload 0, .getstatic 643, .iconst 9, .iload 1, .invokevirtual 2415750, .istore 7, .aload 0, .getstatic 643, .iload 7, .invokevirtual 2268228, .getstatic 384, .astore 8, .aload 8, .aload 0, .getstatic 642, .iload 5, .invokevirtual 2268228, .getstatic 384, .iload 1, .invokevirtual 2823334, .pop, .aload 0, .getstatic 641, .aload 0, .getstatic 642, .iload 6, .invokevirtual 2268228, .getstatic 384, .iload 1, .iconst 1, .ixor, .invokevirtual 2823334, .pop, .aload 8, .aload 0, .getstatic 641, .invokevirtual 2724964, .aload 0, .getstatic 643, .aload 0, .getstatic 642, .iload 5, .aload 0, .getstatic 642, .iload 5, .invokevirtual 2333764, .invokevirtual 2448584, .aload 0, .getstatic 643, .aload 0, .getstatic 642, .iload 6, .aload 0, .getstatic 642, .iload 6, .invokevirtual 2333764, .invokevirtual 2448584, .aload 0, .getstatic 643, .iload 7, .invokevirtual 2432068, .return_])]
def am_m182 : List (Nat × List am_I) := [(0, [.aload 0, .iconst 0, .multianewarray 4 2, .aload 0, .iload 1, .iconst 0, .invokevirtual 3002470, .iload 2, .ifCond .lt 32, .iload 2, .aload 0, .invokeinterface 4 2, .if_icmp .ge 32, .aload 0, .getstatic 257, .iload 2, .caload, .goto 33]),
  (32, [.iconst 0, .goto_w 33]),
  (33, [.dreturn])]
def am_m183 : List (Nat × List am_I) := [(0, [.iload 2, .iconst 8, .if_icmp .le 7, .return_]),
  (7, [.aload 0, .getstatic 256, .iload 1, .invokevirtual 2017348, .ifCond .eq 80, .aload 0, .iconst 40, .invokevirtual 3035204, .aload 0, .aload 0, .getstatic 256, .iload 1, .invokevirtual 2082884, .iload 2, .iconst 1, .iadd, .invokevirtual 3002470, .aload 0, .ldc 0, .aload 0, .getstatic 256, .iload 1, .invokevirtual 2066500, .invokedynamic 1, .invokevirtual 3035204, .aload 0, .aload 0, .getstatic 256, .iload 1, .invokevirtual 2099268, .iload 2, .iconst 1, .iadd, .invokevirtual 3002470, .aload 0, .iconst 41, .invokevirtual 3035204, .goto 113]),
  (80, [.iload 1, .iconst 16, .if_icmp .lt 108, .iload 1, .iconst 20, .if_icmp .ge 108, .aload 0, .ldc 1, .iload 1, .iconst 16, .isub, .invokedynamic 1, .invokevirtual 3035204, .goto 113]),
  (108, [.aload 0, .iload 1, .invokevirtual 3018820, .goto_w 113]),
  (113, [.return_])]
def am_m184 : List (Nat × List am_I) := [(0, [.iload 1, .iconst 1, .iand, .iconst 1, .if_icmp .ne 13, .aload 0, .iconst 126, .invokevirtual 3035204, .goto_w 13]),
  (13, [.aload 0, .iconst 97, .iload 1, .iconst 2, .idiv, .iadd, .i2c, .invokevirtual 3035204, .return_])]
def am_m185 : List (Nat × List am_I) := [(0, [.aload 0, .invokeinterface 4 2, .iconst 37, .if_icmp .ge 29, .aload 0, .getstatic 257, .aload 0, .invokeinterface 4 2, .iload 1, .castore, .aload 0, .dup, .invokeinterface 4 2, .iconst 1, .iadd, .multianewarray 4 2, .goto_w 29]),
  (29, [.return_])]
def am_m186 : List (Nat × List am_I) := [(0, [.aload 4, .iconst 0, .aload 0, .iload 1, .iload 2, .iload 3, .invokevirtual 33960, .i2l, .lastore, .goto 23]),
  (15, [.astore 5, .iconst 1, .ireturn]),
  (19, [.astore 5, .iconst 2, .ireturn]),
  (23, [.iconst 0, .ireturn])]
def am_m187 : List (Nat × List am_I) := [(0, [.aload 3, .iconst 0, .aload 0, .iload 1, .iload 2, .invokevirtual 66662, .i2l, .lastore, .goto 17]),
  (13, [.astore 4, .iconst 1, .ireturn]),
  (17, [.iconst 0, .ireturn])]
def am_m188 : List (Nat × List am_I) := [(0, [.aload 3, .iconst 0, .aload 0, .iload 1, .iload 2, .invokevirtual 83046, .i2l, .lastore, .goto 17]),
  (13, [.astore 4, .iconst 1, .ireturn]),
  (17, [.iconst 0, .ireturn])]
def am_m189 : List (Nat × List am_I) := [(0, [.aload 2, .iconst 0, .aload 0, .iload 1, .invokevirtual 99396, .i2l, .lastore, .goto 18]),
  (12, [.astore 3, .iconst 1, .ireturn]),
  (15, [.astore 3, .iconst 2, .ireturn]),
  (18, [.iconst 0, .ireturn])]
def am_m190 : List (Nat × List am_I) := [(0, [.aload 3, .iconst 0, .aload 0, .iload 1, .iload 2, .invokevirtual 148614, .i2l, .lastore, .goto 17]),
  (13, [.astore 4, .iconst 1, .ireturn]),
  (17, [.iconst 0, .ireturn])]
def am_m191 : List (Nat × List am_I) := [(0, [.aload 2, .iconst 0, .aload 0, .iload 1, .invokevirtual 164964, .i2l, .lastore, .goto 15]),
  (12, [.astore 3, .iconst 1, .ireturn]),
  (15, [.iconst 0, .ireturn])]
def am_m192 : List (Nat × List am_I) := [(0, [.aload 2, .iconst 0, .aload 0, .iload 1, .invokevirtual 181348, .i2l, .lastore, .goto 18]),
  (12, [.astore 3, .iconst 1, .ireturn]),
  (15, [.astore 3, .iconst 2, .ireturn]),
  (18, [.iconst 0, .ireturn])]
def am_m193 : List (Nat × List am_I) := [(0, [.aload 2, .iconst 0, .aload 0, .iload 1, .invokevirtual 197764, .i2l, .lastore, .goto 21]),
  (12, [.astore 3, .iconst 1, .ireturn]),
  (15, [.astore 3, .iconst 2, .ireturn]),
  (18, [.astore 3, .iconst 3, .ireturn]),
  (21, [.iconst 0, .ireturn])]
def am_m194 : List (Nat × List am_I) := [(0, [.aload 3, .iconst 0, .aload 0, .iload 1, .iload 2, .invokevirtual 214182, .i2l, .lastore, .goto 25]),
  (13, [.astore 4, .iconst 1, .ireturn]),
  (17, [.astore 4, .iconst 2, .ireturn]),
  (21, [.astore 4, .iconst 3, .ireturn]),
  (25, [.iconst 0, .ireturn])]
def am_m195 : List (Nat × List am_I) := [(0, [.aload 4, .iconst 0, .aload 0, .iload 1, .iload 2, .iload 3, .invokevirtual 230600, .i2l, .lastore, .goto 27]),
  (15, [.astore 5, .iconst 1, .ireturn]),
  (19, [.astore 5, .iconst 2, .ireturn]),
  (23, [.astore 5, .iconst 3, .ireturn]),
  (27, [.iconst 0, .ireturn])]
def am_m196 : List (Nat × List am_I) := [(0, [.aload 4, .iconst 0, .aload 0, .iload 1, .iload 2, .iload 3, .invokevirtual 246952, .i2l, .lastore, .goto 27]),
  (15, [.astore 5, .iconst 1, .ireturn]),
  (19, [.astore 5, .iconst 2, .ireturn]),
  (23, [.astore 5, .iconst 3, .ireturn]),
  (27, [.iconst 0, .ireturn])]
def am_m197 : List (Nat × List am_I) := [(0, [.aload 4, .iconst 0, .aload 0, .iload 1, .iload 2, .iload 3, .invokevirtual 263336, .i2l, .lastore, .goto 27]),
  (15, [.astore 5, .iconst 1, .ireturn]),
  (19, [.astore 5, .iconst 2, .ireturn]),
  (23, [.astore 5, .iconst 3, .ireturn]),
  (27, [.iconst 0, .ireturn])]
def am_m198 : List (Nat × List am_I) := [(0, [.aload 4, .iconst 0, .aload 0, .iload 1, .iload 2, .iload 3, .invokevirtual 279720, .i2l, .lastore, .goto 27]),
  (15, [.astore 5, .iconst 1, .ireturn]),
  (19, [.astore 5, .iconst 2, .ireturn]),
  (23, [.astore 5, .iconst 3, .ireturn]),
  (27, [.iconst 0, .ireturn])]
def am_m199 : List (Nat × List am_I) := [(0, [.aload 2, .iconst 0, .aload 0, .iload 1, .invokevirtual 296036, .i2l, .lastore, .goto 15]),
  (12, [.astore 3, .iconst 1, .ireturn]),
  (15, [.iconst 0, .ireturn])]
def am_m200 : List (Nat × List am_I) := [(0, [.aload 2, .iconst 0, .aload 0, .iload 1, .invokevirtual 312388, .ifCond .eq 14, .jsr_w 1, .goto 15]),
  (14, [.jsr_w 0, .goto_w 15]),
  (15, [.lastore, .goto 22]),
  (19, [.astore 3, .iconst 1, .ireturn]),
  (22, [.iconst 0, .ireturn])]
def am_m201 : List (Nat × List am_I) := [(0, [.aload 2, .iconst 0, .aload 0, .iload 1, .invokevirtual 328772, .i2l, .lastore, .goto 21]),
  (12, [.astore 3, .iconst 1, .ireturn]),
  (15, [.astore 3, .iconst 2, .ireturn]),
  (18, [.astore 3, .iconst 3, .ireturn]),
  (21, [.iconst 0, .ireturn])]
def am_m202 : List (Nat × List am_I) := [(0, [.aload 2, .iconst 0, .aload 0, .iload 1, .invokevirtual 345188, .i2l, .lastore, .goto 21]),
  (12, [.astore 3, .iconst 1, .ireturn]),
  (15, [.astore 3, .iconst 2, .ireturn]),
  (18, [.astore 3, .iconst 3, .ireturn]),
  (21, [.iconst 0, .ireturn])]
def am_m203 : List (Nat × List am_I) := [(0, [.aload 2, .iconst 0, .aload 0, .iload 1, .invokevirtual 361540, .i2l, .lastore, .goto 15]),
  (12, [.astore 3, .iconst 1, .ireturn]),
  (15, [.iconst 0, .ireturn])]
def am_m204 : List (Nat × List am_I) := [(0, [.aload 2, .iconst 0, .aload 0, .iload 1, .invokevirtual 377924, .i2l, .lastore, .goto 15]),
  (12, [.astore 3, .iconst 1, .ireturn]),
  (15, [.iconst 0, .ireturn])]
def am_m205 : List (Nat × List am_I) := [(0, [.aload 4, .iconst 0, .aload 0, .iload 1, .iload 2, .iload 3, .invokevirtual 394408, .i2l, .lastore, .goto 23]),
  (15, [.astore 5, .iconst 1, .ireturn]),
  (19, [.astore 5, .iconst 2, .ireturn]),
  (23, [.iconst 0, .ireturn])]
def am_m206 : List (Nat × List am_I) := [(0, [.aload 4, .iconst 0, .aload 0, .iload 1, .iload 2, .iload 3, .invokevirtual 410760, .i2l, .lastore, .goto 23]),
  (15, [.astore 5, .iconst 1, .ireturn]),
  (19, [.astore 5, .iconst 2, .ireturn]),
  (23, [.iconst 0, .ireturn])]
def am_m207 : List (Nat × List am_I) := [(20, [.iconst 0, .istore 4, .goto_w 23]),
  (23, [.iload 4, .aload 0, .arraylength, .iconst 4, .isub, .if_icmp .gt 1710, .aload 0, .iload 4, .iaload, .iconst 31, .iand, .tableswitch 1704 0 25 #[156, 213, 226, 306, 319, 387, 455, 511, 536, 561, 629, 685, 741, 797, 865, 961, 1041, 1121, 1201, 1257, 1320, 1376, 1432, 1488, 1544, 1624]]),
  (156, [.aload 1, .aload 0, .iload 4, .iconst 1, .iadd, .iaload, .i2l, .iconst 32, .lshl, .aload 0, .iload 4, .iconst 2, .iadd, .iaload, .i2l, .jsr_w 4294967295, .land, .lor, .invokevirtual 1124, .aload 2, .aload 0, .iload 4, .iconst 1, .iadd, .iaload, .i2l, .iconst 32, .lshl, .aload 0, .iload 4, .iconst 2, .iadd, .iaload, .i2l, .jsr_w 4294967295, .land, .lor, .invokevirtual 781508, .if_icmp .eq 1704, .iconst 0, .freturn]),
  (213, [.aload 1, .invokevirtual 17442, .aload 2, .invokevirtual 863330, .if_icmp .eq 1704, .iconst 0, .freturn]),
  (226, [.aload 1, .aload 0, .iload 4, .iconst 1, .iadd, .iaload, .aload 0, .iload 4, .iconst 2, .iadd, .iaload, .aload 0, .iload 4, .iconst 3, .iadd, .iaload, .aload 3, .invokestatic 3047627, .istore 5, .aload 2, .aload 0, .iload 4, .iconst 1, .iadd, .iaload, .aload 0, .iload 4, .iconst 2, .iadd, .iaload, .aload 0, .iload 4, .iconst 3, .iadd, .iaload, .invokevirtual 732328, .istore 6, .aload 2, .invokevirtual 584738, .iload 5, .if_icmp .eq 286, .iconst 0, .freturn]),
  (286, [.iload 5, .ifCond .ne 303, .aload 3, .iconst 0, .laload, .iload 6, .i2l, .lcmp, .ifCond .eq 303, .iconst 0, .freturn]),
  (303, [.goto 1704]),
  (306, [.aload 1, .invokevirtual 50210, .aload 2, .invokevirtual 748578, .if_icmp .eq 1704, .iconst 0, .freturn]),
  (319, [.aload 1, .aload 0, .iload 4, .iconst 1, .iadd, .iaload, .aload 0, .iload 4, .iconst 2, .iadd, .iaload, .aload 3, .invokestatic 3063977, .istore 5, .aload 2, .aload 0, .iload 4, .iconst 1, .iadd, .iaload, .aload 0, .iload 4, .iconst 2, .iadd, .iaload, .invokevirtual 765030, .istore 6, .aload 2, .invokevirtual 584738, .iload 5, .if_icmp .eq 367, .iconst 0, .freturn]),
  (367, [.iload 5, .ifCond .ne 384, .aload 3, .iconst 0, .laload, .iload 6, .i2l, .lcmp, .ifCond .eq 384, .iconst 0, .freturn]),
  (384, [.goto 1704]),
  (387, [.aload 1, .aload 0, .iload 4, .iconst 1, .iadd, .iaload, .aload 0, .iload 4, .iconst 2, .iadd, .iaload, .aload 3, .invokestatic 3080361, .istore 5, .aload 2, .aload 0, .iload 4, .iconst 1, .iadd, .iaload, .aload 0, .iload 4, .iconst 2, .iadd, .iaload, .invokevirtual 912486, .istore 6, .aload 2, .invokevirtual 584738, .iload 5, .if_icmp .eq 435, .iconst 0, .freturn]),
  (435, [.iload 5, .ifCond .ne 452, .aload 3, .iconst 0, .laload, .iload 6, .i2l, .lcmp, .ifCond .eq 452, .iconst 0, .freturn]),
  (452, [.goto 1704]),
  (455, [.aload 1, .aload 0, .iload 4, .iconst 1, .iadd, .iaload, .aload 3, .invokestatic 3096711, .istore 5, .aload 2, .aload 0, .iload 4, .iconst 1, .iadd, .iaload, .invokevirtual 1059908, .istore 6, .aload 2, .invokevirtual 584738, .iload 5, .if_icmp .eq 491, .iconst 0, .freturn]),
  (491, [.iload 5, .ifCond .ne 508, .aload 3, .iconst 0, .laload, .iload 6, .i2l, .lcmp, .ifCond .eq 508, .iconst 0, .freturn]),
  (508, [.goto 1704]),
  (511, [.aload 1, .aload 0, .iload 4, .iconst 1, .iadd, .iaload, .invokevirtual 115812, .aload 2, .aload 0, .iload 4, .iconst 1, .iadd, .iaload, .invokevirtual 1076324, .if_icmp .eq 1704, .iconst 0, .freturn]),
  (536, [.aload 1, .aload 0, .iload 4, .iconst 1, .iadd, .iaload, .invokevirtual 132164, .aload 2, .aload 0, .iload 4, .iconst 1, .iadd, .iaload, .invokevirtual 1092676, .if_icmp .eq 1704, .iconst 0, .freturn]),
  (561, [.aload 1, .aload 0, .iload 4, .iconst 1, .iadd, .iaload, .aload 0, .iload 4, .iconst 2, .iadd, .iaload, .aload 3, .invokestatic 3113129, .istore 5, .aload 2, .aload 0, .iload 4, .iconst 1, .iadd, .iaload, .aload 0, .iload 4, .iconst 2, .iadd, .iaload, .invokevirtual 1223782, .istore 6, .aload 2, .invokevirtual 584738, .iload 5, .if_icmp .eq 609, .iconst 0, .freturn]),
  (609, [.iload 5, .ifCond .ne 626, .aload 3, .iconst 0, .laload, .iload 6, .i2l, .lcmp, .ifCond .eq 626, .iconst 0, .freturn]),
  (626, [.goto 1704]),
  (629, [.aload 1, .aload 0, .iload 4, .iconst 1, .iadd, .iaload, .aload 3, .invokestatic 3129479, .istore 5, .aload 2, .aload 0, .iload 4, .iconst 1, .iadd, .iaload, .invokevirtual 1240132, .istore 6, .aload 2, .invokevirtual 584738, .iload 5, .if_icmp .eq 665, .iconst 0, .freturn]),
  (665, [.iload 5, .ifCond .ne 682, .aload 3, .iconst 0, .laload, .iload 6, .i2l, .lcmp, .ifCond .eq 682, .iconst 0, .freturn]),
  (682, [.goto 1704]),
  (685, [.aload 1, .aload 0, .iload 4, .iconst 1, .iadd, .iaload, .aload 3, .invokestatic 3145863, .istore 5, .aload 2, .aload 0, .iload 4, .iconst 1, .iadd, .iaload, .invokevirtual 1256516, .istore 6, .aload 2, .invokevirtual 584738, .iload 5, .if_icmp .eq 721, .iconst 0, .freturn]),
  (721, [.iload 5, .ifCond .ne 738, .aload 3, .iconst 0, .laload, .iload 6, .i2l, .lcmp, .ifCond .eq 738, .iconst 0, .freturn]),
  (738, [.goto 1704]),
  (741, [.aload 1, .aload 0, .iload 4, .iconst 1, .iadd, .iaload, .aload 3, .invokestatic 3162247, .istore 5, .aload 2, .aload 0, .iload 4, .iconst 1, .iadd, .iaload, .invokevirtual 1289284, .istore 6, .aload 2, .invokevirtual 584738, .iload 5, .if_icmp .eq 777, .iconst 0, .freturn]),
  (777, [.iload 5, .ifCond .ne 794, .aload 3, .iconst 0, .laload, .iload 6, .i2l, .lcmp, .ifCond .eq 794, .iconst 0, .freturn]),
  (794, [.goto 1704]),
  (797, [.aload 1, .aload 0, .iload 4, .iconst 1, .iadd, .iaload, .aload 0, .iload 4, .iconst 2, .iadd, .iaload, .aload 3, .invokestatic 3178665, .istore 5, .aload 2, .aload 0, .iload 4, .iconst 1, .iadd, .iaload, .aload 0, .iload 4, .iconst 2, .iadd, .iaload, .invokevirtual 1322086, .istore 6, .aload 2, .invokevirtual 584738, .iload 5, .if_icmp .eq 845, .iconst 0, .freturn]),
  (845, [.iload 5, .ifCond .ne 862, .aload 3, .iconst 0, .laload, .iload 6, .i2l, .lcmp, .ifCond .eq 862, .iconst 0, .freturn]),
  (862, [.goto 1704]),
  (865, [.aload 1, .aload 0, .iload 4, .iconst 1, .iadd, .iaload, .aload 0, .iload 4, .iconst 2, .iadd, .iaload, .aload 0, .iload 4, .iconst 3, .iadd, .iaload, .ifCond .eq 891, .iconst 1, .goto 892]),
  (891, [.iconst 0, .goto_w 892]),
  (892, [.aload 3, .invokestatic 3195083, .istore 5, .aload 2, .aload 0, .iload 4, .iconst 1, .iadd, .iaload, .aload 0, .iload 4, .iconst 2, .iadd, .iaload, .aload 0, .iload 4, .iconst 3, .iadd, .iaload, .ifCond .eq 924, .iconst 1, .goto 925]),
  (924, [.iconst 0, .goto_w 925]),
  (925, [.invokevirtual 1338504, .istore 6, .aload 2, .invokevirtual 584738, .iload 5, .if_icmp .eq 941, .iconst 0, .freturn]),
  (941, [.iload 5, .ifCond .ne 958, .aload 3, .iconst 0, .laload, .iload 6, .i2l, .lcmp, .ifCond .eq 958, .iconst 0, .freturn]),
  (958, [.goto 1704]),
  (961, [.aload 1, .aload 0, .iload 4, .iconst 1, .iadd, .iaload, .aload 0, .iload 4, .iconst 2, .iadd, .iaload, .aload 0, .iload 4, .iconst 3, .iadd, .iaload, .aload 3, .invokestatic 3211467, .istore 5, .aload 2, .aload 0, .iload 4, .iconst 1, .iadd, .iaload, .aload 0, .iload 4, .iconst 2, .iadd, .iaload, .aload 0, .iload 4, .iconst 3, .iadd, .iaload, .invokevirtual 1387656, .istore 6, .aload 2, .invokevirtual 584738, .iload 5, .if_icmp .eq 1021, .iconst 0, .freturn]),
  (1021, [.iload 5, .ifCond .ne 1038, .aload 3, .iconst 0, .laload, .iload 6, .i2l, .lcmp, .ifCond .eq 1038, .iconst 0, .freturn]),
  (1038, [.goto 1704]),
  (1041, [.aload 1, .aload 0, .iload 4, .iconst 1, .iadd, .iaload, .aload 0, .iload 4, .iconst 2, .iadd, .iaload, .aload 0, .iload 4, .iconst 3, .iadd, .iaload, .aload 3, .invokestatic 3227851, .istore 5, .aload 2, .aload 0, .iload 4, .iconst 1, .iadd, .iaload, .aload 0, .iload 4, .iconst 2, .iadd, .iaload, .aload 0, .iload 4, .iconst 3, .iadd, .iaload, .invokevirtual 1404040, .istore 6, .aload 2, .invokevirtual 584738, .iload 5, .if_icmp .eq 1101, .iconst 0, .freturn]),
  (1101, [.iload 5, .ifCond .ne 1118, .aload 3, .iconst 0, .laload, .iload 6, .i2l, .lcmp, .ifCond .eq 1118, .iconst 0, .freturn]),
  (1118, [.goto 1704]),
  (1121, [.aload 1, .aload 0, .iload 4, .iconst 1, .iadd, .iaload, .aload 0, .iload 4, .iconst 2, .iadd, .iaload, .aload 0, .iload 4, .iconst 3, .iadd, .iaload, .aload 3, .invokestatic 3244235, .istore 5, .aload 2, .aload 0, .iload 4, .iconst 1, .iadd, .iaload, .aload 0, .iload 4, .iconst 2, .iadd, .iaload, .aload 0, .iload 4, .iconst 3, .iadd, .iaload, .invokevirtual 1420424, .istore 6, .aload 2, .invokevirtual 584738, .iload 5, .if_icmp .eq 1181, .iconst 0, .freturn]),
  (1181, [.iload 5, .ifCond .ne 1198, .aload 3, .iconst 0, .laload, .iload 6, .i2l, .lcmp, .ifCond .eq 1198, .iconst 0, .freturn]),
  (1198, [.goto 1704]),
  (1201, [.aload 1, .aload 0, .iload 4, .iconst 1, .iadd, .iaload, .aload 3, .invokestatic 3260551, .istore 5, .aload 2, .aload 0, .iload 4, .iconst 1, .iadd, .iaload, .invokevirtual 1436772, .istore 6, .aload 2, .invokevirtual 584738, .iload 5, .if_icmp .eq 1237, .iconst 0, .freturn]),
  (1237, [.iload 5, .ifCond .ne 1254, .aload 3, .iconst 0, .laload, .iload 6, .i2l, .lcmp, .ifCond .eq 1254, .iconst 0, .freturn]),
  (1254, [.goto 1704]),
  (1257, [.aload 1, .aload 0, .iload 4, .iconst 1, .iadd, .iaload, .aload 3, .invokestatic 3276935, .istore 5, .aload 2, .aload 0, .iload 4, .iconst 1, .iadd, .iaload, .invokevirtual 1584260, .istore 6, .aload 2, .invokevirtual 584738, .iload 5, .if_icmp .eq 1293, .iconst 0, .freturn]),
  (1293, [.iload 5, .ifCond .ne 1317, .aload 3, .iconst 0, .laload, .iload 6, .ifCond .eq 1310, .jsr_w 1, .goto 1311]),
  (1310, [.jsr_w 0, .goto_w 1311]),
  (1311, [.lcmp, .ifCond .eq 1317, .iconst 0, .freturn]),
  (1317, [.goto 1704]),
  (1320, [.aload 1, .aload 0, .iload 4, .iconst 1, .iadd, .iaload, .aload 3, .invokestatic 3293319, .istore 5, .aload 2, .aload 0, .iload 4, .iconst 1, .iadd, .iaload, .invokevirtual 1715300, .istore 6, .aload 2, .invokevirtual 584738, .iload 5, .if_icmp .eq 1356, .iconst 0, .freturn]),
  (1356, [.iload 5, .ifCond .ne 1373, .aload 3, .iconst 0, .laload, .iload 6, .i2l, .lcmp, .ifCond .eq 1373, .iconst 0, .freturn]),
  (1373, [.goto 1704]),
  (1376, [.aload 1, .aload 0, .iload 4, .iconst 1, .iadd, .iaload, .aload 3, .invokestatic 3309703, .istore 5, .aload 2, .aload 0, .iload 4, .iconst 1, .iadd, .iaload, .invokevirtual 1731684, .istore 6, .aload 2, .invokevirtual 584738, .iload 5, .if_icmp .eq 1412, .iconst 0, .freturn]),
  (1412, [.iload 5, .ifCond .ne 1429, .aload 3, .iconst 0, .laload, .iload 6, .i2l, .lcmp, .ifCond .eq 1429, .iconst 0, .freturn]),
  (1429, [.goto 1704]),
  (1432, [.aload 1, .aload 0, .iload 4, .iconst 1, .iadd, .iaload, .aload 3, .invokestatic 3326087, .istore 5, .aload 2, .aload 0, .iload 4, .iconst 1, .iadd, .iaload, .invokevirtual 1748036, .istore 6, .aload 2, .invokevirtual 584738, .iload 5, .if_icmp .eq 1468, .iconst 0, .freturn]),
  (1468, [.iload 5, .ifCond .ne 1485, .aload 3, .iconst 0, .laload, .iload 6, .i2l, .lcmp, .ifCond .eq 1485, .iconst 0, .freturn]),
  (1485, [.goto 1704]),
  (1488, [.aload 1, .aload 0, .iload 4, .iconst 1, .iadd, .iaload, .aload 3, .invokestatic 3342471, .istore 5, .aload 2, .aload 0, .iload 4, .iconst 1, .iadd, .iaload, .invokevirtual 1764420, .istore 6, .aload 2, .invokevirtual 584738, .iload 5, .if_icmp .eq 1524, .iconst 0, .freturn]),
  (1524, [.iload 5, .ifCond .ne 1541, .aload 3, .iconst 0, .laload, .iload 6, .i2l, .lcmp, .ifCond .eq 1541, .iconst 0, .freturn]),
  (1541, [.goto 1704]),
  (1544, [.aload 1, .aload 0, .iload 4, .iconst 1, .iadd, .iaload, .aload 0, .iload 4, .iconst 2, .iadd, .iaload, .aload 0, .iload 4, .iconst 3, .iadd, .iaload, .aload 3, .invokestatic 3358923, .istore 5, .aload 2, .aload 0, .iload 4, .iconst 1, .iadd, .iaload, .aload 0, .iload 4, .iconst 2, .iadd, .iaload, .aload 0, .iload 4, .iconst 3, .iadd, .iaload, .invokevirtual 1797288, .istore 6, .aload 2, .invokevirtual 584738, .iload 5, .if_icmp .eq 1604, .iconst 0, .freturn]),
  (1604, [.iload 5, .ifCond .ne 1621, .aload 3, .iconst 0, .laload, .iload 6, .i2l, .lcmp, .ifCond .eq 1621, .iconst 0, .freturn]),
  (1621, [.goto 1704]),
  (1624, [.aload 1, .aload 0, .iload 4, .iconst 1, .iadd, .iaload, .aload 0, .iload 4, .iconst 2, .iadd, .iaload, .aload 0, .iload 4, .iconst 3, .iadd, .iaload, .aload 3, .invokestatic 3375307, .istore 5, .aload 2, .aload 0, .iload 4, .iconst 1, .iadd, .iaload, .aload 0, .iload 4, .iconst 2, .iadd, .iaload, .aload 0, .iload 4, .iconst 3, .iadd, .iaload, .invokevirtual 1813672, .istore 6, .aload 2, .invokevirtual 584738, .iload 5, .if_icmp .eq 1684, .iconst 0, .freturn]),
  (1684, [.iload 5, .ifCond .ne 1701, .aload 3, .iconst 0, .laload, .iload 6, .i2l, .lcmp, .ifCond .eq 1701, .iconst 0, .freturn]),
  (1701, [.goto 1704]),
  (1704, [.iinc 4 4, .goto 23]),
  (1710, [.iconst 1, .freturn])]
def am_tb : List (Nat × List (Nat × List am_I)) := [(1124, am_m0), (17442, am_m1), (33960, am_m2), (50210, am_m3), (66662, am_m4), (83046, am_m5), (99396, am_m6), (115812, am_m7), (132164, am_m8), (148614, am_m9), (164964, am_m10), (181348, am_m11), (197764, am_m12), (214182, am_m13), (230600, am_m14), (246952, am_m15), (263336, am_m16), (279720, am_m17), (296036, am_m18), (312388, am_m19), (328772, am_m20), (345188, am_m21), (361540, am_m22), (377924, am_m23), (394408, am_m24), (410760, am_m25), (427076, am_m26), (443460, am_m27), (459878, am_m28), (476228, am_m29), (492646, am_m30), (509030, am_m31), (525646, am_m32), (541796, am_m33), (558148, am_m34), (584738, am_m35), (601190, am_m36), (617540, am_m37), (633924, am_m38), (650340, am_m39), (666692, am_m40), (683108, am_m41), (699492, am_m42), (716072, am_m43), (732328, am_m44), (748578, am_m45), (765030, am_m46), (781508, am_m47), (786466, am_m48), (802850, am_m49), (830692, am_m50), (846948, am_m51), (863330, am_m52), (879684, am_m53), (896164, am_m54), (912486, am_m55), (928868, am_m56), (945252, am_m57), (961668, am_m58), (978018, am_m59), (994404, am_m60), (1010886, am_m61), (1027138, am_m62), (1043522, am_m63), (1059908, am_m64), (1076324, am_m65), (1092676, am_m66), (1109060, am_m67), (1125444, am_m68), (1141954, am_m69), (1158346, am_m70), (1174698, am_m71), (1179682, am_m72), (1207432, am_m73), (1223782, am_m74), (1240132, am_m75), (1256516, am_m76), (1272934, am_m77), (1289284, am_m78), (1305736, am_m79), (1322086, am_m80), (1338504, am_m81), (1355082, am_m82), (1371438, am_m83), (1387656, am_m84), (1404040, am_m85), (1420424, am_m86), (1436772, am_m87), (1453250, am_m88), (1469738, am_m89), (1485956, am_m90), (1502412, am_m91), (1518756, am_m92), (1535140, am_m93), (1551558, am_m94), (1567874, am_m95), (1584260, am_m96), (1600580, am_m97), (1617060, am_m98), (1633416, am_m99), (1649860, am_m100), (1666184, am_m101), (1682826, am_m102), (1699112, am_m103), (1715300, am_m104), (1731684, am_m105), (1748036, am_m106), (1764420, am_m107), (1780902, am_m108), (1797288, am_m109), (1813672, am_m110), (1826916, am_m111), (1843366, am_m112), (1859784, am_m113), (1876100, am_m114), (1892582, am_m115), (1908872, am_m116), (1925320, am_m117), (1941640, am_m118), (1958122, am_m119), (1974506, am_m120), (1984546, am_m121), (2000964, am_m122), (2017348, am_m123), (2033732, am_m124), (2050180, am_m125), (2066500, am_m126), (2082884, am_m127), (2099268, am_m128), (2115784, am_m129), (2132036, am_m130), (2148556, am_m131), (2172036, am_m132), (2188420, am_m133), (2195586, am_m134), (2211906, am_m135), (2235426, am_m136), (2251810, am_m137), (2268228, am_m138), (2284578, am_m139), (2300996, am_m140), (2317380, am_m141), (2333764, am_m142), (2350178, am_m143), (2366594, am_m144), (2382882, am_m145), (2399300, am_m146), (2415750, am_m147), (2432068, am_m148), (2448584, am_m149), (2464836, am_m150), (2481220, am_m151), (2497670, am_m152), (2513954, am_m153), (2526404, am_m154), (2542690, am_m155), (2559042, am_m156), (2575460, am_m157), (2591778, am_m158), (2608228, am_m159), (2624612, am_m160), (2637890, am_m161), (2659362, am_m162), (2675780, am_m163), (2692130, am_m164), (2708580, am_m165), (2724964, am_m166), (2741348, am_m167), (2757764, am_m168), (2774148, am_m169), (2790500, am_m170), (2806852, am_m171), (2823334, am_m172), (2839652, am_m173), (2861124, am_m174), (2877474, am_m175), (2893922, am_m176), (2910372, am_m177), (2926922, am_m178), (2943112, am_m179), (2959688, am_m180), (2976042, am_m181), (2986086, am_m182), (3002470, am_m183), (3018820, am_m184), (3035204, am_m185), (3047627, am_m186), (3063977, am_m187), (3080361, am_m188), (3096711, am_m189), (3113129, am_m190), (3129479, am_m191), (3145863, am_m192), (3162247, am_m193), (3178665, am_m194), (3195083, am_m195), (3211467, am_m196), (3227851, am_m197), (3244235, am_m198), (3260551, am_m199), (3276935, am_m200), (3293319, am_m201), (3309703, am_m202), (3326087, am_m203), (3342471, am_m204), (3358923, am_m205), (3375307, am_m206), (3391714, am_m207)]
def am_bk (g pc : Nat) : Option (List am_I) := match am_tb[g / 16384]? with
  | some q => if g = q.1 then q.2.lookup pc else none
  | none => none
def am_hs : List (Nat × List (Nat × Nat)) := [(3047627, [(1, 15), (2, 19)]),
  (3063977, [(1, 13)]),
  (3080361, [(1, 13)]),
  (3096711, [(1, 12), (2, 15)]),
  (3113129, [(1, 13)]),
  (3129479, [(1, 12)]),
  (3145863, [(1, 12), (3, 15)]),
  (3162247, [(1, 12), (2, 15), (3, 18)]),
  (3178665, [(1, 13), (2, 17), (3, 21)]),
  (3195083, [(1, 15), (2, 19), (3, 23)]),
  (3211467, [(1, 15), (2, 19), (3, 23)]),
  (3227851, [(1, 15), (2, 19), (3, 23)]),
  (3244235, [(1, 15), (2, 19), (3, 23)]),
  (3260551, [(1, 12)]),
  (3276935, [(1, 19)]),
  (3293319, [(1, 12), (2, 15), (3, 18)]),
  (3309703, [(1, 12), (2, 15), (3, 18)]),
  (3326087, [(1, 12)]),
  (3342471, [(1, 12)]),
  (3358923, [(1, 15), (4, 19)]),
  (3375307, [(1, 15), (4, 19)])]
def am_hd (g e : Nat) : Option Nat := if g % 2 = 0 then none else match am_hs.lookup g with
  | some l => l.lookup e
  | none => none
theorem am_bk_of {g pc : Nat} {l : List (Nat × List am_I)} {b : List am_I} (h : am_tb[g / 16384]? = some (g, l)) (hb : l.lookup pc = some b) : am_bk g pc = some b := by
  unfold am_bk
  rw [h]
  show (if g = g then l.lookup pc else none) = some b
  rw [if_pos rfl]
  exact hb
theorem tb_0 : am_tb[1124 / 16384]? = some (1124, am_m0) := rfl
theorem bk_0_0 : am_bk 1124 0 = some [.aload 0, .getstatic 65, .lload 1, .invokevirtual 2526404, .freturn] := am_bk_of tb_0 rfl
theorem tb_1 : am_tb[17442 / 16384]? = some (17442, am_m1) := rfl
theorem bk_1_0 : am_bk 17442 0 = some [.aload 0, .getstatic 65, .invokevirtual 2542690, .ireturn] := am_bk_of tb_1 rfl
theorem tb_2 : am_tb[33960 / 16384]? = some (33960, am_m2) := rfl
theorem bk_2_0 : am_bk 33960 0 = some [.aload 0, .iload 2, .invokevirtual 443460, .aload 0, .iload 3, .invokevirtual 443460, .iload 1, .ifCond .lt 19, .iload 1, .iconst 3, .if_icmp .le 27, .goto_w 19] := am_bk_of tb_2 rfl
theorem bk_2_19 : am_bk 33960 19 = some [.new 1] := am_bk_of tb_2 rfl
theorem bk_2_27 : am_bk 33960 27 = some [.aload 0, .getstatic 64, .iload 1, .iload 2, .iload 3, .invokevirtual 2115784, .istore 4, .iload 4, .iconst (-1), .if_icmp .ne 53, .new 2] := am_bk_of tb_2 rfl
theorem bk_2_53 : am_bk 33960 53 = some [.iload 4, .ireturn] := am_bk_of tb_2 rfl
theorem tb_3 : am_tb[50210 / 16384]? = some (50210, am_m3) := rfl
theorem bk_3_0 : am_bk 50210 0 = some [.aload 0, .getstatic 64, .invokevirtual 1984546, .ireturn] := am_bk_of tb_3 rfl
theorem tb_4 : am_tb[66662 / 16384]? = some (66662, am_m4) := rfl
theorem bk_4_0 : am_bk 66662 0 = some [.aload 0, .iload 1, .invokevirtual 443460, .iload 2, .tableswitch 72 0 3 #[36, 45, 54, 63]] := am_bk_of tb_4 rfl
theorem bk_4_36 : am_bk 66662 36 = some [.aload 0, .getstatic 64, .iload 1, .invokevirtual 2033732, .ireturn] := am_bk_of tb_4 rfl
theorem bk_4_45 : am_bk 66662 45 = some [.aload 0, .getstatic 64, .iload 1, .invokevirtual 2066500, .ireturn] := am_bk_of tb_4 rfl
theorem bk_4_54 : am_bk 66662 54 = some [.aload 0, .getstatic 64, .iload 1, .invokevirtual 2082884, .ireturn] := am_bk_of tb_4 rfl
theorem bk_4_63 : am_bk 66662 63 = some [.aload 0, .getstatic 64, .iload 1, .invokevirtual 2099268, .ireturn] := am_bk_of tb_4 rfl
theorem bk_4_72 : am_bk 66662 72 = some [.new 1] := am_bk_of tb_4 rfl
theorem tb_5 : am_tb[83046 / 16384]? = some (83046, am_m5) := rfl
theorem bk_5_0 : am_bk 83046 0 = some [.aload 0, .iload 1, .invokevirtual 443460, .aload 0, .getstatic 66, .iload 1, .iload 2, .invokevirtual 2986086, .dreturn] := am_bk_of tb_5 rfl
theorem tb_6 : am_tb[99396 / 16384]? = some (99396, am_m6) := rfl
theorem bk_6_0 : am_bk 99396 0 = some [.aload 0, .iload 1, .invokevirtual 443460, .aload 0, .getstatic 67, .invokevirtual 2659362, .iconst 8, .if_icmp .ge 42, .aload 0, .getstatic 64, .aload 0, .getstatic 67, .invokevirtual 2050180, .aload 0, .getstatic 64, .iload 1, .invokevirtual 2033732, .iadd, .iconst 8, .if_icmp .le 50, .goto_w 42] := am_bk_of tb_6 rfl
theorem bk_6_42 : am_bk 99396 42 = some [.new 2] := am_bk_of tb_6 rfl
theorem bk_6_50 : am_bk 99396 50 = some [.aload 0, .getstatic 67, .iload 1, .invokevirtual 2708580, .aload 0, .getstatic 67, .invokevirtual 2659362, .ireturn] := am_bk_of tb_6 rfl
theorem tb_7 : am_tb[115812 / 16384]? = some (115812, am_m7) := rfl
theorem bk_7_0 : am_bk 115812 0 = some [.aload 0, .getstatic 67, .iload 1, .invokevirtual 2675780, .istore 2, .iload 2, .iconst (-1), .if_icmp .eq 23, .aload 0, .getstatic 67, .iload 2, .invokevirtual 2741348, .pop, .goto_w 23] := am_bk_of tb_7 rfl
theorem bk_7_23 : am_bk 115812 23 = some [.iload 2, .ireturn] := am_bk_of tb_7 rfl
theorem tb_8 : am_tb[132164 / 16384]? = some (132164, am_m8) := rfl
theorem bk_8_0 : am_bk 132164 0 = some [.aload 0, .getstatic 67, .iload 1, .invokevirtual 2675780, .ireturn] := am_bk_of tb_8 rfl
theorem tb_9 : am_tb[148614 / 16384]? = some (148614, am_m9) := rfl
theorem bk_9_0 : am_bk 148614 0 = some [.aload 0, .iload 1, .invokevirtual 427076, .iload 2, .ifCond .lt 15, .iload 2, .iconst 8, .if_icmp .lt 23, .goto_w 15] := am_bk_of tb_9 rfl
theorem bk_9_15 : am_bk 148614 15 = some [.new 1] := am_bk_of tb_9 rfl
theorem bk_9_23 : am_bk 148614 23 = some [.aload 0, .iconst 0, .iconst 2, .iload 2, .imul, .invokevirtual 509030, .astore 3, .aload 3, .iconst 2, .iload 2, .imul, .invokevirtual 2708580, .aload 3, .iconst 2, .iload 2, .imul, .iconst 1, .iadd, .invokevirtual 2708580, .aload 0, .iload 1, .invokevirtual 541796, .ireturn] := am_bk_of tb_9 rfl
theorem tb_10 : am_tb[164964 / 16384]? = some (164964, am_m10) := rfl
theorem bk_10_0 : am_bk 164964 0 = some [.aload 0, .iload 1, .invokevirtual 427076, .aload 0, .iconst 1, .iconst 16, .invokevirtual 509030, .astore 2, .aload 2, .iconst 16, .invokevirtual 2708580, .aload 0, .iload 1, .invokevirtual 541796, .ireturn] := am_bk_of tb_10 rfl
theorem tb_11 : am_tb[181348 / 16384]? = some (181348, am_m11) := rfl
theorem bk_11_0 : am_bk 181348 0 = some [.aload 0, .iload 1, .invokevirtual 427076, .aload 0, .iconst 2, .iconst 19, .invokevirtual 509030, .astore 2, .aload 2, .aload 0, .getstatic 67, .invokevirtual 2806852, .aload 2, .iconst 19, .invokevirtual 2708580, .aload 0, .iload 1, .invokevirtual 541796, .ireturn] := am_bk_of tb_11 rfl
theorem tb_12 : am_tb[197764 / 16384]? = some (197764, am_m12) := rfl
theorem bk_12_0 : am_bk 197764 0 = some [.aload 0, .iload 1, .invokevirtual 427076, .aload 0, .iload 1, .invokevirtual 476228, .astore 2, .aload 0, .iconst 3, .iconst 17, .invokevirtual 509030, .astore 3, .aload 3, .aload 2, .invokevirtual 2284578, .invokevirtual 2806852, .aload 3, .iconst 17, .invokevirtual 2708580, .aload 0, .getstatic 70, .aload 2, .invokevirtual 2464836, .aload 0, .iload 1, .invokevirtual 541796, .ireturn] := am_bk_of tb_12 rfl
theorem tb_13 : am_tb[214182 / 16384]? = some (214182, am_m13) := rfl
theorem bk_13_0 : am_bk 214182 0 = some [.aload 0, .iload 1, .invokevirtual 427076, .aload 0, .iload 2, .iconst 1, .invokevirtual 459878, .aload 0, .iload 1, .invokevirtual 476228, .astore 3, .aload 0, .iconst 4, .iload 2, .invokevirtual 509030, .astore 4, .aload 4, .aload 3, .invokevirtual 2284578, .aload 0, .getstatic 64, .iload 2, .invokevirtual 2082884, .invokevirtual 2823334, .ifCond .eq 61, .aload 4, .aload 0, .getstatic 64, .iload 2, .invokevirtual 2099268, .invokevirtual 2741348, .ifCond .ne 69, .goto_w 61] := am_bk_of tb_13 rfl
theorem bk_13_61 : am_bk 214182 61 = some [.new 2] := am_bk_of tb_13 rfl
theorem bk_13_69 : am_bk 214182 69 = some [.aload 4, .iload 2, .invokevirtual 2708580, .aload 0, .getstatic 70, .aload 3, .invokevirtual 2464836, .aload 0, .iload 1, .invokevirtual 541796, .ireturn] := am_bk_of tb_13 rfl
theorem tb_14 : am_tb[230600 / 16384]? = some (230600, am_m14) := rfl
theorem bk_14_0 : am_bk 230600 0 = some [.aload 0, .iload 1, .invokevirtual 427076, .aload 0, .iload 2, .iconst 2, .invokevirtual 459878, .aload 0, .iload 1, .invokevirtual 476228, .astore 4, .aload 0, .iload 3, .ifCond .eq 28, .iconst 7, .goto 30] := am_bk_of tb_14 rfl
theorem bk_14_28 : am_bk 230600 28 = some [.iconst 6, .goto_w 30] := am_bk_of tb_14 rfl
theorem bk_14_30 : am_bk 230600 30 = some [.iload 2, .invokevirtual 509030, .astore 5, .aload 5, .aload 4, .invokevirtual 2284578, .iload 3, .ifCond .eq 58, .aload 0, .getstatic 64, .iload 2, .invokevirtual 2099268, .goto 66] := am_bk_of tb_14 rfl
theorem bk_14_58 : am_bk 230600 58 = some [.aload 0, .getstatic 64, .iload 2, .invokevirtual 2082884, .goto_w 66] := am_bk_of tb_14 rfl
theorem bk_14_66 : am_bk 230600 66 = some [.invokevirtual 2823334, .ifCond .ne 80, .new 2] := am_bk_of tb_14 rfl
theorem bk_14_80 : am_bk 230600 80 = some [.aload 5, .iload 2, .invokevirtual 2708580, .aload 0, .getstatic 70, .aload 4, .invokevirtual 2464836, .aload 0, .iload 1, .invokevirtual 541796, .ireturn] := am_bk_of tb_14 rfl
theorem tb_15 : am_tb[246952 / 16384]? = some (246952, am_m15) := rfl
theorem bk_15_0 : am_bk 246952 0 = some [.aload 0, .iload 1, .invokevirtual 427076, .aload 0, .iload 2, .invokevirtual 427076, .aload 0, .iload 3, .iconst 3, .invokevirtual 459878, .aload 0, .iload 1, .aload 0, .getstatic 64, .iload 3, .invokevirtual 2082884, .iload 2, .aload 0, .getstatic 64, .iload 3, .invokevirtual 2099268, .iconst 5, .iload 3, .invokevirtual 525646, .astore 4, .aload 4, .aload 0, .getstatic 68, .invokevirtual 2839652, .ifCond .ne 62, .new 2] := am_bk_of tb_15 rfl
theorem bk_15_62 : am_bk 246952 62 = some [.aload 4, .iload 3, .invokevirtual 2708580, .aload 0, .iload 1, .invokevirtual 541796, .ireturn] := am_bk_of tb_15 rfl
theorem tb_16 : am_tb[263336 / 16384]? = some (263336, am_m16) := rfl
theorem bk_16_0 : am_bk 263336 0 = some [.aload 0, .iload 1, .invokevirtual 427076, .aload 0, .iload 2, .invokevirtual 427076, .aload 0, .iload 3, .iconst 0, .invokevirtual 459878, .aload 0, .iload 1, .aload 0, .getstatic 64, .iload 3, .invokevirtual 2082884, .iload 2, .aload 0, .getstatic 64, .iload 3, .invokevirtual 2099268, .iconst 8, .iload 3, .invokevirtual 525646, .astore 4, .aload 4, .aload 0, .getstatic 68, .invokevirtual 2724964, .aload 4, .iload 3, .invokevirtual 2708580, .aload 0, .iload 1, .invokevirtual 541796, .ireturn] := am_bk_of tb_16 rfl
theorem tb_17 : am_tb[279720 / 16384]? = some (279720, am_m17) := rfl
theorem bk_17_0 : am_bk 279720 0 = some [.aload 0, .iload 1, .invokevirtual 427076, .aload 0, .iload 2, .invokevirtual 427076, .aload 0, .iload 3, .invokevirtual 443460, .aload 0, .iload 1, .iload 3, .iload 2, .iload 3, .iconst 1, .ixor, .iconst 9, .iload 3, .invokevirtual 525646, .astore 4, .aload 4, .aload 0, .getstatic 68, .invokevirtual 2724964, .aload 0, .iload 1, .invokevirtual 541796, .ireturn] := am_bk_of tb_17 rfl
theorem tb_18 : am_tb[296036 / 16384]? = some (296036, am_m18) := rfl
theorem bk_18_0 : am_bk 296036 0 = some [.aload 0, .iload 1, .invokevirtual 427076, .aload 0, .getstatic 69, .iload 1, .aaload, .invokevirtual 2235426, .istore 2, .aload 0, .getstatic 69, .iload 1, .aaload, .invokevirtual 2382882, .iload 2, .ireturn] := am_bk_of tb_18 rfl
theorem tb_19 : am_tb[312388 / 16384]? = some (312388, am_m19) := rfl
theorem bk_19_0 : am_bk 312388 0 = some [.aload 0, .iload 1, .invokevirtual 427076, .aload 0, .getstatic 71, .aload 0, .getstatic 67, .invokevirtual 1826916, .ifCond .ne 21, .iconst 0, .freturn] := am_bk_of tb_19 rfl
theorem bk_19_21 : am_bk 312388 21 = some [.aload 0, .getstatic 69, .iload 1, .aaload, .aload 0, .getstatic 70, .invokevirtual 2481220, .iconst 1, .freturn] := am_bk_of tb_19 rfl
theorem tb_20 : am_tb[328772 / 16384]? = some (328772, am_m20) := rfl
theorem bk_20_0 : am_bk 328772 0 = some [.aload 0, .iload 1, .invokevirtual 427076, .aload 0, .getstatic 72, .aload 0, .iload 1, .invokevirtual 476228, .invokevirtual 2861124, .aload 0, .getstatic 72, .invokevirtual 2893922, .ifCond .ne 29, .iconst (-1), .ireturn] := am_bk_of tb_20 rfl
theorem bk_20_29 : am_bk 328772 29 = some [.aload 0, .iload 1, .invokevirtual 558148, .ireturn] := am_bk_of tb_20 rfl
theorem tb_21 : am_tb[345188 / 16384]? = some (345188, am_m21) := rfl
theorem bk_21_0 : am_bk 345188 0 = some [.aload 0, .iload 1, .invokevirtual 427076, .aload 0, .getstatic 72, .aload 0, .iload 1, .invokevirtual 476228, .invokevirtual 2861124, .iconst 0, .istore 2, .goto_w 19] := am_bk_of tb_21 rfl
theorem bk_21_19 : am_bk 345188 19 = some [.iload 2, .iconst 300, .if_icmp .ge 55, .aload 0, .getstatic 72, .invokevirtual 2877474, .invokevirtual 2251810, .ifCond .ne 55, .aload 0, .getstatic 72, .invokevirtual 2893922, .ifCond .eq 55, .iinc 2 1, .goto 19] := am_bk_of tb_21 rfl
theorem bk_21_55 : am_bk 345188 55 = some [.aload 0, .getstatic 72, .invokevirtual 2877474, .invokevirtual 2350178, .ifCond .le 76, .new 3] := am_bk_of tb_21 rfl
theorem bk_21_76 : am_bk 345188 76 = some [.aload 0, .iload 1, .invokevirtual 558148, .pop, .iload 2, .ireturn] := am_bk_of tb_21 rfl
theorem tb_22 : am_tb[361540 / 16384]? = some (361540, am_m22) := rfl
theorem bk_22_0 : am_bk 361540 0 = some [.aload 0, .iload 1, .invokevirtual 427076, .aload 0, .getstatic 69, .iload 1, .aaload, .invokevirtual 2235426, .ireturn] := am_bk_of tb_22 rfl
theorem tb_23 : am_tb[377924 / 16384]? = some (377924, am_m23) := rfl
theorem bk_23_0 : am_bk 377924 0 = some [.aload 0, .iload 1, .invokevirtual 427076, .aload 0, .getstatic 69, .iload 1, .aaload, .invokevirtual 2350178, .ireturn] := am_bk_of tb_23 rfl
theorem tb_24 : am_tb[394408 / 16384]? = some (394408, am_m24) := rfl
theorem bk_24_0 : am_bk 394408 0 = some [.aload 0, .iload 1, .invokevirtual 427076, .iload 3, .ifCond .lt 14, .iload 3, .iconst 3, .if_icmp .le 22, .goto_w 14] := am_bk_of tb_24 rfl
theorem bk_24_14 : am_bk 394408 14 = some [.new 1] := am_bk_of tb_24 rfl
theorem bk_24_22 : am_bk 394408 22 = some [.aload 0, .iload 1, .iload 2, .invokevirtual 492646, .astore 4, .iload 3, .tableswitch 77 0 2 #[56, 62, 68]] := am_bk_of tb_24 rfl
theorem bk_24_56 : am_bk 394408 56 = some [.aload 4, .invokeinterface 6 1, .ireturn] := am_bk_of tb_24 rfl
theorem bk_24_62 : am_bk 394408 62 = some [.aload 4, .invokeinterface 6 2, .ireturn] := am_bk_of tb_24 rfl
theorem bk_24_68 : am_bk 394408 68 = some [.aload 4, .getstatic 384, .invokevirtual 2659362, .ireturn] := am_bk_of tb_24 rfl
theorem bk_24_77 : am_bk 394408 77 = some [.aload 4, .invokeinterface 6 3, .ireturn] := am_bk_of tb_24 rfl
theorem tb_25 : am_tb[410760 / 16384]? = some (410760, am_m25) := rfl
theorem bk_25_0 : am_bk 410760 0 = some [.aload 0, .iload 1, .invokevirtual 427076, .aload 0, .iload 1, .iload 2, .invokevirtual 492646, .getstatic 384, .iload 3, .invokevirtual 2675780, .ireturn] := am_bk_of tb_25 rfl
theorem tb_26 : am_tb[427076 / 16384]? = some (427076, am_m26) := rfl
theorem bk_26_0 : am_bk 427076 0 = some [.iload 1, .ifCond .lt 9, .iload 1, .iconst 4, .if_icmp .lt 17, .goto_w 9] := am_bk_of tb_26 rfl
theorem bk_26_9 : am_bk 427076 9 = some [.new 1] := am_bk_of tb_26 rfl
theorem bk_26_17 : am_bk 427076 17 = some [.return_] := am_bk_of tb_26 rfl
theorem tb_27 : am_tb[443460 / 16384]? = some (443460, am_m27) := rfl
theorem bk_27_0 : am_bk 443460 0 = some [.aload 0, .getstatic 64, .iload 1, .invokevirtual 2000964, .ifCond .ne 19, .new 1] := am_bk_of tb_27 rfl
theorem bk_27_19 : am_bk 443460 19 = some [.return_] := am_bk_of tb_27 rfl
theorem tb_28 : am_tb[459878 / 16384]? = some (459878, am_m28) := rfl
theorem bk_28_0 : am_bk 459878 0 = some [.aload 0, .getstatic 64, .iload 1, .invokevirtual 2000964, .ifCond .eq 23, .aload 0, .getstatic 64, .iload 1, .invokevirtual 2066500, .iload 2, .if_icmp .eq 31, .goto_w 23] := am_bk_of tb_28 rfl
theorem bk_28_23 : am_bk 459878 23 = some [.new 1] := am_bk_of tb_28 rfl
theorem bk_28_31 : am_bk 459878 31 = some [.return_] := am_bk_of tb_28 rfl
theorem tb_29 : am_tb[476228 / 16384]? = some (476228, am_m29) := rfl
theorem bk_29_0 : am_bk 476228 0 = some [.aload 0, .getstatic 69, .iload 1, .aaload, .invokevirtual 2235426, .ifCond .ne 20, .new 2] := am_bk_of tb_29 rfl
theorem bk_29_20 : am_bk 476228 20 = some [.aload 0, .getstatic 69, .iload 1, .aaload, .areturn] := am_bk_of tb_29 rfl
theorem tb_30 : am_tb[492646 / 16384]? = some (492646, am_m30) := rfl
theorem bk_30_0 : am_bk 492646 0 = some [.iload 2, .ifCond .lt 17, .iload 2, .aload 0, .getstatic 69, .iload 1, .aaload, .invokevirtual 2235426, .if_icmp .lt 25, .goto_w 17] := am_bk_of tb_30 rfl
theorem bk_30_17 : am_bk 492646 17 = some [.new 4] := am_bk_of tb_30 rfl
theorem bk_30_25 : am_bk 492646 25 = some [.aload 0, .getstatic 69, .iload 1, .aaload, .iload 2, .invokevirtual 2268228, .areturn] := am_bk_of tb_30 rfl
theorem tb_31 : am_tb[509030 / 16384]? = some (509030, am_m31) := rfl
theorem bk_31_0 : am_bk 509030 0 = some [.aload 0, .getstatic 70, .invokevirtual 2382882, .aload 0, .getstatic 70, .aload 0, .getstatic 70, .iload 1, .iload 2, .invokevirtual 2415750, .invokevirtual 2268228, .getstatic 384, .areturn] := am_bk_of tb_31 rfl
theorem tb_32 : am_tb[525646 / 16384]? = some (525646, am_m32) := rfl
theorem bk_32_0 : am_bk 525646 0 = some [.aload 0, .iload 1, .invokevirtual 476228, .astore 7, .aload 0, .iload 3, .invokevirtual 476228, .astore 8, .aload 0, .iload 5, .iload 6, .invokevirtual 509030, .astore 9, .aload 9, .aload 7, .invokevirtual 2284578, .iload 2, .invokevirtual 2823334, .ifCond .eq 55, .aload 0, .getstatic 68, .aload 8, .invokevirtual 2284578, .iload 4, .invokevirtual 2823334, .ifCond .ne 63, .goto_w 55] := am_bk_of tb_32 rfl
theorem bk_32_55 : am_bk 525646 55 = some [.new 2] := am_bk_of tb_32 rfl
theorem bk_32_63 : am_bk 525646 63 = some [.aload 0, .getstatic 70, .aload 7, .invokevirtual 2464836, .aload 0, .getstatic 70, .aload 8, .invokevirtual 2464836, .aload 9, .areturn] := am_bk_of tb_32 rfl
theorem tb_33 : am_tb[541796 / 16384]? = some (541796, am_m33) := rfl
theorem bk_33_0 : am_bk 541796 0 = some [.aload 0, .getstatic 70, .invokevirtual 2284578, .astore 2, .aload 0, .getstatic 70, .invokevirtual 2251810, .ifCond .ne 40, .aload 2, .invokevirtual 2659362, .iconst 8, .if_icmp .gt 40, .aload 0, .getstatic 64, .aload 2, .invokevirtual 2050180, .iconst 12, .if_icmp .le 48, .goto_w 40] := am_bk_of tb_33 rfl
theorem bk_33_40 : am_bk 541796 40 = some [.new 3] := am_bk_of tb_33 rfl
theorem bk_33_48 : am_bk 541796 48 = some [.aload 0, .getstatic 70, .iconst 0, .invokevirtual 2432068, .aload 0, .getstatic 69, .iload 1, .aaload, .aload 0, .getstatic 70, .invokevirtual 2481220, .aload 0, .getstatic 69, .iload 1, .aaload, .invokevirtual 2235426, .ireturn] := am_bk_of tb_33 rfl
theorem tb_34 : am_tb[558148 / 16384]? = some (558148, am_m34) := rfl
theorem bk_34_0 : am_bk 558148 0 = some [.aload 0, .getstatic 72, .invokevirtual 2877474, .invokevirtual 2251810, .ifCond .eq 21, .new 3] := am_bk_of tb_34 rfl
theorem bk_34_21 : am_bk 558148 21 = some [.aload 0, .getstatic 69, .iload 1, .aaload, .aload 0, .getstatic 72, .invokevirtual 2877474, .invokevirtual 2481220, .aload 0, .getstatic 69, .iload 1, .aaload, .invokevirtual 2350178, .ireturn] := am_bk_of tb_34 rfl
theorem tb_35 : am_tb[584738 / 16384]? = some (584738, am_m35) := rfl
theorem bk_35_0 : am_bk 584738 0 = some [.aload 0, .invokeinterface 11 0, .ireturn] := am_bk_of tb_35 rfl
theorem tb_36 : am_tb[601190 / 16384]? = some (601190, am_m36) := rfl
theorem bk_36_0 : am_bk 601190 0 = some [.aload 0, .iload 1, .ifCond .eq 9, .iconst 1, .goto 18] := am_bk_of tb_36 rfl
theorem bk_36_9 : am_bk 601190 9 = some [.iload 2, .ifCond .eq 17, .iconst 2, .goto 18] := am_bk_of tb_36 rfl
theorem bk_36_17 : am_bk 601190 17 = some [.iconst 0, .goto_w 18] := am_bk_of tb_36 rfl
theorem bk_36_18 : am_bk 601190 18 = some [.multianewarray 11 0, .aload 0, .invokeinterface 11 0, .ifCond .ne 32, .iconst 1, .goto 33] := am_bk_of tb_36 rfl
theorem bk_36_32 : am_bk 601190 32 = some [.iconst 0, .goto_w 33] := am_bk_of tb_36 rfl
theorem bk_36_33 : am_bk 601190 33 = some [.freturn] := am_bk_of tb_36 rfl
theorem tb_37 : am_tb[617540 / 16384]? = some (617540, am_m37) := rfl
theorem bk_37_0 : am_bk 617540 0 = some [.iload 1, .ifCond .lt 21, .iload 1, .iconst 20, .iconst 2, .aload 0, .invokeinterface 11 1, .imul, .iadd, .if_icmp .ge 21, .iconst 1, .goto 22] := am_bk_of tb_37 rfl
theorem bk_37_21 : am_bk 617540 21 = some [.iconst 0, .goto_w 22] := am_bk_of tb_37 rfl
theorem bk_37_22 : am_bk 617540 22 = some [.freturn] := am_bk_of tb_37 rfl
theorem tb_38 : am_tb[633924 / 16384]? = some (633924, am_m38) := rfl
theorem bk_38_0 : am_bk 633924 0 = some [.iload 1, .iconst 20, .if_icmp .ge 10, .iconst 1, .goto 21] := am_bk_of tb_38 rfl
theorem bk_38_10 : am_bk 633924 10 = some [.aload 0, .getstatic 709, .iload 1, .iconst 20, .isub, .iconst 2, .idiv, .iaload, .goto_w 21] := am_bk_of tb_38 rfl
theorem bk_38_21 : am_bk 633924 21 = some [.ireturn] := am_bk_of tb_38 rfl
theorem tb_39 : am_tb[650340 / 16384]? = some (650340, am_m39) := rfl
theorem bk_39_0 : am_bk 650340 0 = some [.iload 1, .iconst 20, .if_icmp .ge 8, .iconst (-1), .ireturn] := am_bk_of tb_39 rfl
theorem bk_39_8 : am_bk 650340 8 = some [.aload 0, .getstatic 706, .iload 1, .iconst 20, .isub, .iconst 2, .idiv, .baload, .ifCond .eq 26, .iconst 2, .goto 27] := am_bk_of tb_39 rfl
theorem bk_39_26 : am_bk 650340 26 = some [.iconst 0, .goto_w 27] := am_bk_of tb_39 rfl
theorem bk_39_27 : am_bk 650340 27 = some [.istore 2, .iload 1, .iconst 2, .irem, .ifCond .ne 38, .iload 2, .goto 41] := am_bk_of tb_39 rfl
theorem bk_39_38 : am_bk 650340 38 = some [.iload 2, .iconst 1, .iadd, .goto_w 41] := am_bk_of tb_39 rfl
theorem bk_39_41 : am_bk 650340 41 = some [.ireturn] := am_bk_of tb_39 rfl
theorem tb_40 : am_tb[666692 / 16384]? = some (666692, am_m40) := rfl
theorem bk_40_0 : am_bk 666692 0 = some [.iload 1, .iconst 2, .irem, .ifCond .ne 12, .iload 1, .iconst 1, .iadd, .goto 15] := am_bk_of tb_40 rfl
theorem bk_40_12 : am_bk 666692 12 = some [.iload 1, .iconst 1, .isub, .goto_w 15] := am_bk_of tb_40 rfl
theorem bk_40_15 : am_bk 666692 15 = some [.ireturn] := am_bk_of tb_40 rfl
theorem tb_41 : am_tb[683108 / 16384]? = some (683108, am_m41) := rfl
theorem bk_41_0 : am_bk 683108 0 = some [.aload 0, .getstatic 707, .iload 1, .iconst 20, .isub, .iconst 2, .idiv, .iaload, .istore 2, .iload 1, .iconst 2, .irem, .ifCond .ne 22, .iload 2, .goto 27] := am_bk_of tb_41 rfl
theorem bk_41_22 : am_bk 683108 22 = some [.aload 0, .iload 2, .invokevirtual 666692, .goto_w 27] := am_bk_of tb_41 rfl
theorem bk_41_27 : am_bk 683108 27 = some [.ireturn] := am_bk_of tb_41 rfl
theorem tb_42 : am_tb[699492 / 16384]? = some (699492, am_m42) := rfl
theorem bk_42_0 : am_bk 699492 0 = some [.aload 0, .getstatic 708, .iload 1, .iconst 20, .isub, .iconst 2, .idiv, .iaload, .istore 2, .iload 1, .iconst 2, .irem, .ifCond .ne 22, .iload 2, .goto 27] := am_bk_of tb_42 rfl
theorem bk_42_22 : am_bk 699492 22 = some [.aload 0, .iload 2, .invokevirtual 666692, .goto_w 27] := am_bk_of tb_42 rfl
theorem bk_42_27 : am_bk 699492 27 = some [.ireturn] := am_bk_of tb_42 rfl
theorem tb_43 : am_tb[716072 / 16384]? = some (716072, am_m43) := rfl
theorem bk_43_0 : am_bk 716072 0 = some [.iload 1, .iconst 1, .if_icmp .eq 10, .iload 1, .iconst 3, .if_icmp .ne 14, .goto_w 10] := am_bk_of tb_43 rfl
theorem bk_43_10 : am_bk 716072 10 = some [.iconst 1, .goto 15] := am_bk_of tb_43 rfl
theorem bk_43_14 : am_bk 716072 14 = some [.iconst 0, .goto_w 15] := am_bk_of tb_43 rfl
theorem bk_43_15 : am_bk 716072 15 = some [.istore 4, .iload 4, .ifCond .eq 30, .aload 0, .iload 2, .invokevirtual 666692, .goto 31] := am_bk_of tb_43 rfl
theorem bk_43_30 : am_bk 716072 30 = some [.iload 2, .goto_w 31] := am_bk_of tb_43 rfl
theorem bk_43_31 : am_bk 716072 31 = some [.istore 5, .iload 4, .ifCond .eq 46, .aload 0, .iload 3, .invokevirtual 666692, .goto 47] := am_bk_of tb_43 rfl
theorem bk_43_46 : am_bk 716072 46 = some [.iload 3, .goto_w 47] := am_bk_of tb_43 rfl
theorem bk_43_47 : am_bk 716072 47 = some [.istore 6, .iload 1, .iconst 2, .if_icmp .eq 59, .iload 1, .iconst 3, .if_icmp .ne 63, .goto_w 59] := am_bk_of tb_43 rfl
theorem bk_43_59 : am_bk 716072 59 = some [.iconst 1, .goto 64] := am_bk_of tb_43 rfl
theorem bk_43_63 : am_bk 716072 63 = some [.iconst 0, .goto_w 64] := am_bk_of tb_43 rfl
theorem bk_43_64 : am_bk 716072 64 = some [.istore 7, .iconst 0, .istore 8, .goto_w 69] := am_bk_of tb_43 rfl
theorem bk_43_69 : am_bk 716072 69 = some [.iload 8, .aload 0, .invokeinterface 11 1, .if_icmp .ge 120, .aload 0, .getstatic 706, .iload 8, .baload, .iload 7, .if_icmp .ne 114, .aload 0, .getstatic 707, .iload 8, .iaload, .iload 5, .if_icmp .ne 114, .aload 0, .getstatic 708, .iload 8, .iaload, .iload 6, .if_icmp .eq 120, .goto_w 114] := am_bk_of tb_43 rfl
theorem bk_43_114 : am_bk 716072 114 = some [.iinc 8 1, .goto 69] := am_bk_of tb_43 rfl
theorem bk_43_120 : am_bk 716072 120 = some [.iload 8, .aload 0, .invokeinterface 11 1, .if_icmp .ne 211, .aload 0, .invokeinterface 11 1, .iconst 30, .if_icmp .eq 154, .aload 0, .iload 2, .invokevirtual 633924, .aload 0, .iload 3, .invokevirtual 633924, .iadd, .iconst 8, .if_icmp .le 156, .goto_w 154] := am_bk_of tb_43 rfl
theorem bk_43_154 : am_bk 716072 154 = some [.iconst (-1), .ireturn] := am_bk_of tb_43 rfl
theorem bk_43_156 : am_bk 716072 156 = some [.aload 0, .getstatic 706, .iload 8, .iload 7, .bastore, .aload 0, .getstatic 707, .iload 8, .iload 5, .iastore, .aload 0, .getstatic 708, .iload 8, .iload 6, .iastore, .aload 0, .getstatic 709, .iload 8, .aload 0, .iload 2, .invokevirtual 633924, .aload 0, .iload 3, .invokevirtual 633924, .iadd, .iastore, .aload 0, .dup, .invokeinterface 11 1, .iconst 1, .iadd, .multianewarray 11 1, .goto_w 211] := am_bk_of tb_43 rfl
theorem bk_43_211 : am_bk 716072 211 = some [.iconst 20, .iconst 2, .iload 8, .imul, .iadd, .iload 4, .ifCond .eq 227, .iconst 1, .goto 228] := am_bk_of tb_43 rfl
theorem bk_43_227 : am_bk 716072 227 = some [.iconst 0, .goto_w 228] := am_bk_of tb_43 rfl
theorem bk_43_228 : am_bk 716072 228 = some [.iadd, .ireturn] := am_bk_of tb_43 rfl
theorem tb_44 : am_tb[732328 / 16384]? = some (732328, am_m44) := rfl
theorem bk_44_0 : am_bk 732328 0 = some [.aload 0, .iload 1, .ifCond .lt 26, .iload 1, .iconst 3, .if_icmp .gt 26, .aload 0, .iload 2, .invokevirtual 617540, .ifCond .eq 26, .aload 0, .iload 3, .invokevirtual 617540, .ifCond .ne 30, .goto_w 26] := am_bk_of tb_44 rfl
theorem bk_44_26 : am_bk 732328 26 = some [.iconst 1, .goto 31] := am_bk_of tb_44 rfl
theorem bk_44_30 : am_bk 732328 30 = some [.iconst 0, .goto_w 31] := am_bk_of tb_44 rfl
theorem bk_44_31 : am_bk 732328 31 = some [.iconst 0, .invokevirtual 601190, .ifCond .ne 40, .iconst 0, .ireturn] := am_bk_of tb_44 rfl
theorem bk_44_40 : am_bk 732328 40 = some [.aload 0, .iload 1, .iload 2, .iload 3, .invokevirtual 716072, .istore 4, .aload 0, .iconst 0, .iload 4, .ifCond .ge 60, .iconst 1, .goto 61] := am_bk_of tb_44 rfl
theorem bk_44_60 : am_bk 732328 60 = some [.iconst 0, .goto_w 61] := am_bk_of tb_44 rfl
theorem bk_44_61 : am_bk 732328 61 = some [.invokevirtual 601190, .ifCond .eq 72, .iload 4, .goto 73] := am_bk_of tb_44 rfl
theorem bk_44_72 : am_bk 732328 72 = some [.iconst 0, .goto_w 73] := am_bk_of tb_44 rfl
theorem bk_44_73 : am_bk 732328 73 = some [.ireturn] := am_bk_of tb_44 rfl
theorem tb_45 : am_tb[748578 / 16384]? = some (748578, am_m45) := rfl
theorem bk_45_0 : am_bk 748578 0 = some [.aload 0, .iconst 0, .multianewarray 11 0, .iconst 20, .iconst 2, .aload 0, .invokeinterface 11 1, .imul, .iadd, .ireturn] := am_bk_of tb_45 rfl
theorem tb_46 : am_tb[765030 / 16384]? = some (765030, am_m46) := rfl
theorem bk_46_0 : am_bk 765030 0 = some [.aload 0, .aload 0, .iload 1, .invokevirtual 617540, .ifCond .eq 18, .iload 2, .ifCond .lt 18, .iload 2, .iconst 3, .if_icmp .le 22, .goto_w 18] := am_bk_of tb_46 rfl
theorem bk_46_18 : am_bk 765030 18 = some [.iconst 1, .goto 23] := am_bk_of tb_46 rfl
theorem bk_46_22 : am_bk 765030 22 = some [.iconst 0, .goto_w 23] := am_bk_of tb_46 rfl
theorem bk_46_23 : am_bk 765030 23 = some [.iconst 0, .invokevirtual 601190, .ifCond .ne 32, .iconst 0, .ireturn] := am_bk_of tb_46 rfl
theorem bk_46_32 : am_bk 765030 32 = some [.iload 2, .ifCond .ne 42, .aload 0, .iload 1, .invokevirtual 633924, .ireturn] := am_bk_of tb_46 rfl
theorem bk_46_42 : am_bk 765030 42 = some [.iload 1, .iconst 20, .if_icmp .ge 52, .iconst (-1), .goto 83] := am_bk_of tb_46 rfl
theorem bk_46_52 : am_bk 765030 52 = some [.iload 2, .iconst 1, .if_icmp .ne 65, .aload 0, .iload 1, .invokevirtual 650340, .goto 83] := am_bk_of tb_46 rfl
theorem bk_46_65 : am_bk 765030 65 = some [.iload 2, .iconst 2, .if_icmp .ne 78, .aload 0, .iload 1, .invokevirtual 683108, .goto 83] := am_bk_of tb_46 rfl
theorem bk_46_78 : am_bk 765030 78 = some [.aload 0, .iload 1, .invokevirtual 699492, .goto_w 83] := am_bk_of tb_46 rfl
theorem bk_46_83 : am_bk 765030 83 = some [.ireturn] := am_bk_of tb_46 rfl
theorem tb_47 : am_tb[781508 / 16384]? = some (781508, am_m47) := rfl
theorem bk_47_0 : am_bk 781508 0 = some [.aload 0, .iconst 0, .multianewarray 11 0, .iconst 0, .istore 3, .iconst 1, .istore 4, .goto_w 10] := am_bk_of tb_47 rfl
theorem bk_47_10 : am_bk 781508 10 = some [.iload 3, .iconst 8, .if_icmp .ge 76, .lload 1, .iconst 8, .iload 3, .imul, .lshr, .jsr_w 255, .land, .jsr_w 0, .lcmp, .ifCond .eq 76, .lload 1, .iconst 8, .iload 3, .imul, .lshr, .jsr_w 255, .land, .l2i, .istore 5, .iload 4, .ifCond .eq 67, .iload 5, .iconst 33, .if_icmp .lt 67, .iload 5, .iconst 126, .if_icmp .gt 67, .iconst 1, .goto 68] := am_bk_of tb_47 rfl
theorem bk_47_67 : am_bk 781508 67 = some [.iconst 0, .goto_w 68] := am_bk_of tb_47 rfl
theorem bk_47_68 : am_bk 781508 68 = some [.istore 4, .iinc 3 1, .goto 10] := am_bk_of tb_47 rfl
theorem bk_47_76 : am_bk 781508 76 = some [.iload 4, .ifCond .eq 92, .aload 0, .invokeinterface 11 6, .iload 3, .iadd, .iconst 60, .if_icmp .le 94, .goto_w 92] := am_bk_of tb_47 rfl
theorem bk_47_92 : am_bk 781508 92 = some [.iconst 0, .freturn] := am_bk_of tb_47 rfl
theorem bk_47_94 : am_bk 781508 94 = some [.iconst 0, .istore 5, .goto_w 97] := am_bk_of tb_47 rfl
theorem bk_47_97 : am_bk 781508 97 = some [.iload 5, .iload 3, .if_icmp .ge 133, .aload 0, .getstatic 711, .aload 0, .invokeinterface 11 6, .iload 5, .iadd, .lload 1, .iconst 8, .iload 5, .imul, .lshr, .jsr_w 255, .land, .l2i, .iastore, .iinc 5 1, .goto 97] := am_bk_of tb_47 rfl
theorem bk_47_133 : am_bk 781508 133 = some [.aload 0, .aload 0, .invokeinterface 11 6, .iload 3, .iadd, .multianewarray 11 6, .iconst 1, .freturn] := am_bk_of tb_47 rfl
theorem tb_48 : am_tb[786466 / 16384]? = some (786466, am_m48) := rfl
theorem bk_48_0 : am_bk 786466 0 = some [.iload 0, .iconst 97, .if_icmp .lt 19, .iload 0, .iconst 104, .if_icmp .gt 19, .iconst 2, .iload 0, .iconst 97, .isub, .imul, .ireturn] := am_bk_of tb_48 rfl
theorem bk_48_19 : am_bk 786466 19 = some [.iload 0, .iconst 49, .if_icmp .ne 30, .iconst 16, .goto 64] := am_bk_of tb_48 rfl
theorem bk_48_30 : am_bk 786466 30 = some [.iload 0, .iconst 70, .if_icmp .ne 41, .iconst 17, .goto 64] := am_bk_of tb_48 rfl
theorem bk_48_41 : am_bk 786466 41 = some [.iload 0, .iconst 48, .if_icmp .ne 52, .iconst 18, .goto 64] := am_bk_of tb_48 rfl
theorem bk_48_52 : am_bk 786466 52 = some [.iload 0, .iconst 84, .if_icmp .ne 63, .iconst 19, .goto 64] := am_bk_of tb_48 rfl
theorem bk_48_63 : am_bk 786466 63 = some [.iconst (-1), .goto_w 64] := am_bk_of tb_48 rfl
theorem bk_48_64 : am_bk 786466 64 = some [.ireturn] := am_bk_of tb_48 rfl
theorem tb_49 : am_tb[802850 / 16384]? = some (802850, am_m49) := rfl
theorem bk_49_0 : am_bk 802850 0 = some [.iload 0, .iconst 42, .if_icmp .ne 10, .iconst 0, .goto 41] := am_bk_of tb_49 rfl
theorem bk_49_10 : am_bk 802850 10 = some [.iload 0, .iconst 37, .if_icmp .ne 20, .iconst 1, .goto 41] := am_bk_of tb_49 rfl
theorem bk_49_20 : am_bk 802850 20 = some [.iload 0, .iconst 43, .if_icmp .ne 30, .iconst 2, .goto 41] := am_bk_of tb_49 rfl
theorem bk_49_30 : am_bk 802850 30 = some [.iload 0, .iconst 38, .if_icmp .ne 40, .iconst 3, .goto 41] := am_bk_of tb_49 rfl
theorem bk_49_40 : am_bk 802850 40 = some [.iconst (-1), .goto_w 41] := am_bk_of tb_49 rfl
theorem bk_49_41 : am_bk 802850 41 = some [.ireturn] := am_bk_of tb_49 rfl
theorem tb_50 : am_tb[830692 / 16384]? = some (830692, am_m50) := rfl
theorem bk_50_0 : am_bk 830692 0 = some [.iconst 0, .istore 2, .iconst 0, .istore 3, .iconst 0, .istore 4, .iconst 0, .istore 5, .goto_w 10] := am_bk_of tb_50 rfl
theorem bk_50_10 : am_bk 830692 10 = some [.iload 5, .aload 0, .invokeinterface 11 6, .if_icmp .ge 232, .aload 0, .getstatic 711, .iload 5, .iaload, .istore 6, .iload 4, .ifCond .ne 127, .iload 6, .iconst 126, .if_icmp .ne 47, .iconst 1, .iload 3, .isub, .istore 3, .goto 226] := am_bk_of tb_50 rfl
theorem bk_50_47 : am_bk 830692 47 = some [.iload 6, .iconst 40, .if_icmp .ne 82, .iload 2, .iconst 8, .if_icmp .ge 82, .aload 0, .getstatic 712, .iload 2, .iload 3, .iastore, .aload 0, .getstatic 715, .iload 2, .iconst 0, .bastore, .iinc 2 1, .iconst 0, .istore 3, .goto 226] := am_bk_of tb_50 rfl
theorem bk_50_82 : am_bk 830692 82 = some [.iload 6, .invokestatic 786466, .ifCond .lt 124, .aload 0, .iload 3, .iconst 1, .if_icmp .ne 108, .aload 0, .iload 6, .invokestatic 786466, .invokevirtual 666692, .goto 113] := am_bk_of tb_50 rfl
theorem bk_50_108 : am_bk 830692 108 = some [.iload 6, .invokestatic 786466, .goto_w 113] := am_bk_of tb_50 rfl
theorem bk_50_113 : am_bk 830692 113 = some [.multianewarray 11 12, .iconst 0, .istore 3, .iconst 1, .istore 4, .goto 226] := am_bk_of tb_50 rfl
theorem bk_50_124 : am_bk 830692 124 = some [.iload 5, .ireturn] := am_bk_of tb_50 rfl
theorem bk_50_127 : am_bk 830692 127 = some [.iload 2, .ifCond .ne 134, .iload 5, .ireturn] := am_bk_of tb_50 rfl
theorem bk_50_134 : am_bk 830692 134 = some [.aload 0, .getstatic 715, .iload 2, .iconst 1, .isub, .baload, .ifCond .ne 196, .iload 6, .invokestatic 802850, .ifCond .ge 156, .iload 5, .ireturn] := am_bk_of tb_50 rfl
theorem bk_50_156 : am_bk 830692 156 = some [.aload 0, .getstatic 713, .iload 2, .iconst 1, .isub, .aload 0, .invokeinterface 11 12, .iastore, .aload 0, .getstatic 714, .iload 2, .iconst 1, .isub, .iload 6, .invokestatic 802850, .iastore, .aload 0, .getstatic 715, .iload 2, .iconst 1, .isub, .iconst 1, .bastore, .iconst 0, .istore 4, .goto 226] := am_bk_of tb_50 rfl
theorem bk_50_196 : am_bk 830692 196 = some [.iload 6, .iconst 41, .if_icmp .eq 206, .iload 5, .ireturn] := am_bk_of tb_50 rfl
theorem bk_50_206 : am_bk 830692 206 = some [.iinc 2 (-1), .aload 0, .iload 1, .ifCond .eq 222, .aload 0, .iload 2, .invokevirtual 846948, .goto 223] := am_bk_of tb_50 rfl
theorem bk_50_222 : am_bk 830692 222 = some [.iconst 0, .goto_w 223] := am_bk_of tb_50 rfl
theorem bk_50_223 : am_bk 830692 223 = some [.multianewarray 11 12, .goto_w 226] := am_bk_of tb_50 rfl
theorem bk_50_226 : am_bk 830692 226 = some [.iinc 5 1, .goto 10] := am_bk_of tb_50 rfl
theorem bk_50_232 : am_bk 830692 232 = some [.iload 4, .ifCond .eq 245, .iload 2, .ifCond .ne 245, .iconst (-1), .goto 249] := am_bk_of tb_50 rfl
theorem bk_50_245 : am_bk 830692 245 = some [.aload 0, .invokeinterface 11 6, .goto_w 249] := am_bk_of tb_50 rfl
theorem bk_50_249 : am_bk 830692 249 = some [.ireturn] := am_bk_of tb_50 rfl
theorem tb_51 : am_tb[846948 / 16384]? = some (846948, am_m51) := rfl
theorem bk_51_0 : am_bk 846948 0 = some [.aload 0, .invokeinterface 11 12, .ifCond .lt 16, .aload 0, .getstatic 713, .iload 1, .iaload, .ifCond .ge 18, .goto_w 16] := am_bk_of tb_51 rfl
theorem bk_51_16 : am_bk 846948 16 = some [.iconst (-1), .ireturn] := am_bk_of tb_51 rfl
theorem bk_51_18 : am_bk 846948 18 = some [.aload 0, .aload 0, .getstatic 714, .iload 1, .iaload, .aload 0, .getstatic 713, .iload 1, .iaload, .aload 0, .invokeinterface 11 12, .invokevirtual 716072, .istore 2, .iload 2, .ifCond .lt 61, .aload 0, .getstatic 712, .iload 1, .iaload, .iconst 1, .if_icmp .ne 61, .aload 0, .iload 2, .invokevirtual 666692, .goto 62] := am_bk_of tb_51 rfl
theorem bk_51_61 : am_bk 846948 61 = some [.iload 2, .goto_w 62] := am_bk_of tb_51 rfl
theorem bk_51_62 : am_bk 846948 62 = some [.ireturn] := am_bk_of tb_51 rfl
theorem tb_52 : am_tb[863330 / 16384]? = some (863330, am_m52) := rfl
theorem bk_52_0 : am_bk 863330 0 = some [.aload 0, .iconst 0, .multianewarray 11 0, .aload 0, .invokeinterface 11 1, .istore 1, .aload 0, .iconst 0, .invokevirtual 830692, .istore 2, .iload 2, .ifCond .ge 45, .aload 0, .iconst 1, .invokevirtual 830692, .istore 2, .aload 0, .aload 0, .invokeinterface 11 12, .ifCond .ge 38, .iload 1, .goto 42] := am_bk_of tb_52 rfl
theorem bk_52_38 : am_bk 863330 38 = some [.aload 0, .invokeinterface 11 1, .goto_w 42] := am_bk_of tb_52 rfl
theorem bk_52_42 : am_bk 863330 42 = some [.multianewarray 11 1, .goto_w 45] := am_bk_of tb_52 rfl
theorem bk_52_45 : am_bk 863330 45 = some [.aload 0, .iconst 0, .multianewarray 11 6, .iload 2, .ifCond .lt 60, .iconst (-1), .iload 2, .isub, .goto 76] := am_bk_of tb_52 rfl
theorem bk_52_60 : am_bk 863330 60 = some [.aload 0, .invokeinterface 11 12, .ifCond .ge 72, .iconst (-100), .goto 76] := am_bk_of tb_52 rfl
theorem bk_52_72 : am_bk 863330 72 = some [.aload 0, .invokeinterface 11 12, .goto_w 76] := am_bk_of tb_52 rfl
theorem bk_52_76 : am_bk 863330 76 = some [.ireturn] := am_bk_of tb_52 rfl
theorem tb_53 : am_tb[879684 / 16384]? = some (879684, am_m53) := rfl
theorem bk_53_0 : am_bk 879684 0 = some [.aload 0, .getstatic 718, .aload 0, .invokeinterface 11 13, .iload 1, .iastore, .aload 0, .dup, .invokeinterface 11 13, .iconst 1, .iadd, .multianewarray 11 13, .return_] := am_bk_of tb_53 rfl
theorem tb_54 : am_tb[896164 / 16384]? = some (896164, am_m54) := rfl
theorem bk_54_0 : am_bk 896164 0 = some [.aload 0, .iconst 0, .multianewarray 11 13, .iconst 1, .istore 2, .aload 0, .getstatic 719, .iconst 0, .iload 1, .iastore, .goto_w 14] := am_bk_of tb_54 rfl
theorem bk_54_14 : am_bk 896164 14 = some [.iload 2, .ifCond .le 217, .iinc 2 (-1), .aload 0, .getstatic 719, .iload 2, .iaload, .istore 3, .iload 3, .ifCond .ge 41, .aload 0, .iload 3, .ineg, .invokevirtual 879684, .goto 214] := am_bk_of tb_54 rfl
theorem bk_54_41 : am_bk 896164 41 = some [.iload 3, .iconst 20, .if_icmp .lt 143, .aload 0, .iload 3, .invokevirtual 650340, .istore 4, .aload 0, .getstatic 719, .iload 2, .iconst (-41), .iastore, .aload 0, .getstatic 719, .iload 2, .iconst 1, .iadd, .aload 0, .iload 3, .invokevirtual 699492, .iastore, .aload 0, .getstatic 719, .iload 2, .iconst 2, .iadd, .iload 4, .ifCond .ne 92, .iconst (-42), .goto 116] := am_bk_of tb_54 rfl
theorem bk_54_92 : am_bk 896164 92 = some [.iload 4, .iconst 1, .if_icmp .ne 103, .iconst (-37), .goto 116] := am_bk_of tb_54 rfl
theorem bk_54_103 : am_bk 896164 103 = some [.iload 4, .iconst 2, .if_icmp .ne 114, .iconst (-43), .goto 116] := am_bk_of tb_54 rfl
theorem bk_54_114 : am_bk 896164 114 = some [.iconst (-38), .goto_w 116] := am_bk_of tb_54 rfl
theorem bk_54_116 : am_bk 896164 116 = some [.iastore, .aload 0, .getstatic 719, .iload 2, .iconst 3, .iadd, .aload 0, .iload 3, .invokevirtual 683108, .iastore, .iload 2, .iconst 4, .iadd, .istore 2, .aload 0, .iconst 40, .invokevirtual 879684, .goto 214] := am_bk_of tb_54 rfl
theorem bk_54_143 : am_bk 896164 143 = some [.iload 3, .iconst 16, .if_icmp .lt 191, .aload 0, .iload 3, .iconst 16, .if_icmp .ne 161, .iconst 49, .goto 185] := am_bk_of tb_54 rfl
theorem bk_54_161 : am_bk 896164 161 = some [.iload 3, .iconst 17, .if_icmp .ne 172, .iconst 70, .goto 185] := am_bk_of tb_54 rfl
theorem bk_54_172 : am_bk 896164 172 = some [.iload 3, .iconst 18, .if_icmp .ne 183, .iconst 48, .goto 185] := am_bk_of tb_54 rfl
theorem bk_54_183 : am_bk 896164 183 = some [.iconst 84, .goto_w 185] := am_bk_of tb_54 rfl
theorem bk_54_185 : am_bk 896164 185 = some [.invokevirtual 879684, .goto 214] := am_bk_of tb_54 rfl
theorem bk_54_191 : am_bk 896164 191 = some [.iload 3, .iconst 2, .irem, .iconst 1, .if_icmp .ne 204, .aload 0, .iconst 126, .invokevirtual 879684, .goto_w 204] := am_bk_of tb_54 rfl
theorem bk_54_204 : am_bk 896164 204 = some [.aload 0, .iconst 97, .iload 3, .iconst 2, .idiv, .iadd, .invokevirtual 879684, .goto_w 214] := am_bk_of tb_54 rfl
theorem bk_54_214 : am_bk 896164 214 = some [.goto 14] := am_bk_of tb_54 rfl
theorem bk_54_217 : am_bk 896164 217 = some [.return_] := am_bk_of tb_54 rfl
theorem tb_55 : am_tb[912486 / 16384]? = some (912486, am_m55) := rfl
theorem bk_55_0 : am_bk 912486 0 = some [.aload 0, .aload 0, .iload 1, .invokevirtual 617540, .ifCond .ne 13, .iconst 1, .goto 14] := am_bk_of tb_55 rfl
theorem bk_55_13 : am_bk 912486 13 = some [.iconst 0, .goto_w 14] := am_bk_of tb_55 rfl
theorem bk_55_14 : am_bk 912486 14 = some [.iconst 0, .invokevirtual 601190, .ifCond .ne 23, .iconst 0, .dreturn] := am_bk_of tb_55 rfl
theorem bk_55_23 : am_bk 912486 23 = some [.aload 0, .iload 1, .invokevirtual 896164, .iload 2, .ifCond .lt 50, .iload 2, .aload 0, .invokeinterface 11 13, .if_icmp .ge 50, .aload 0, .getstatic 718, .iload 2, .iaload, .i2c, .goto 51] := am_bk_of tb_55 rfl
theorem bk_55_50 : am_bk 912486 50 = some [.iconst 0, .goto_w 51] := am_bk_of tb_55 rfl
theorem bk_55_51 : am_bk 912486 51 = some [.dreturn] := am_bk_of tb_55 rfl
theorem tb_56 : am_tb[928868 / 16384]? = some (928868, am_m56) := rfl
theorem bk_56_0 : am_bk 928868 0 = some [.aload 0, .invokeinterface 11 32, .istore 2, .goto_w 5] := am_bk_of tb_56 rfl
theorem bk_56_5 : am_bk 928868 5 = some [.iload 2, .ifCond .le 41, .aload 0, .getstatic 737, .iload 2, .iconst 1, .isub, .iaload, .iload 1, .if_icmp .le 41, .aload 0, .getstatic 737, .iload 2, .aload 0, .getstatic 737, .iload 2, .iconst 1, .isub, .iaload, .iastore, .iinc 2 (-1), .goto 5] := am_bk_of tb_56 rfl
theorem bk_56_41 : am_bk 928868 41 = some [.aload 0, .getstatic 737, .iload 2, .iload 1, .iastore, .aload 0, .dup, .invokeinterface 11 32, .iconst 1, .iadd, .multianewarray 11 32, .return_] := am_bk_of tb_56 rfl
theorem tb_57 : am_tb[945252 / 16384]? = some (945252, am_m57) := rfl
theorem bk_57_0 : am_bk 945252 0 = some [.iconst 0, .istore 2, .goto_w 2] := am_bk_of tb_57 rfl
theorem bk_57_2 : am_bk 945252 2 = some [.iload 2, .aload 0, .invokeinterface 11 32, .if_icmp .ge 26, .aload 0, .getstatic 737, .iload 2, .iaload, .iload 1, .if_icmp .eq 26, .iinc 2 1, .goto 2] := am_bk_of tb_57 rfl
theorem bk_57_26 : am_bk 945252 26 = some [.iload 2, .aload 0, .invokeinterface 11 32, .if_icmp .ge 38, .iload 2, .goto 39] := am_bk_of tb_57 rfl
theorem bk_57_38 : am_bk 945252 38 = some [.iconst (-1), .goto_w 39] := am_bk_of tb_57 rfl
theorem bk_57_39 : am_bk 945252 39 = some [.ireturn] := am_bk_of tb_57 rfl
theorem tb_58 : am_tb[961668 / 16384]? = some (961668, am_m58) := rfl
theorem bk_58_0 : am_bk 961668 0 = some [.aload 0, .iload 1, .invokevirtual 945252, .istore 2, .aload 0, .dup, .invokeinterface 11 32, .iconst 1, .isub, .multianewarray 11 32, .iload 2, .istore 3, .goto_w 18] := am_bk_of tb_58 rfl
theorem bk_58_18 : am_bk 961668 18 = some [.iload 3, .aload 0, .invokeinterface 11 32, .if_icmp .ge 46, .aload 0, .getstatic 737, .iload 3, .aload 0, .getstatic 737, .iload 3, .iconst 1, .iadd, .iaload, .iastore, .iinc 3 1, .goto 18] := am_bk_of tb_58 rfl
theorem bk_58_46 : am_bk 961668 46 = some [.return_] := am_bk_of tb_58 rfl
theorem tb_59 : am_tb[978018 / 16384]? = some (978018, am_m59) := rfl
theorem bk_59_0 : am_bk 978018 0 = some [.iconst 0, .istore 1, .iconst 0, .istore 2, .goto_w 4] := am_bk_of tb_59 rfl
theorem bk_59_4 : am_bk 978018 4 = some [.iload 2, .aload 0, .invokeinterface 11 32, .if_icmp .ge 31, .iload 1, .aload 0, .aload 0, .getstatic 737, .iload 2, .iaload, .invokevirtual 633924, .iadd, .istore 1, .iinc 2 1, .goto 4] := am_bk_of tb_59 rfl
theorem bk_59_31 : am_bk 978018 31 = some [.iload 1, .ireturn] := am_bk_of tb_59 rfl
theorem tb_60 : am_tb[994404 / 16384]? = some (994404, am_m60) := rfl
theorem bk_60_0 : am_bk 994404 0 = some [.aload 0, .aload 0, .getstatic 728, .iload 1, .iaload, .multianewarray 11 32, .iconst 0, .istore 2, .goto_w 12] := am_bk_of tb_60 rfl
theorem bk_60_12 : am_bk 994404 12 = some [.iload 2, .aload 0, .invokeinterface 11 32, .if_icmp .ge 43, .aload 0, .getstatic 737, .iload 2, .aload 0, .getstatic 729, .iconst 24, .iload 1, .imul, .iload 2, .iadd, .iaload, .iastore, .iinc 2 1, .goto 12] := am_bk_of tb_60 rfl
theorem bk_60_43 : am_bk 994404 43 = some [.return_] := am_bk_of tb_60 rfl
theorem tb_61 : am_tb[1010886 / 16384]? = some (1010886, am_m61) := rfl
theorem bk_61_0 : am_bk 1010886 0 = some [.iconst 0, .istore 3, .iconst 0, .istore 4, .goto_w 5] := am_bk_of tb_61 rfl
theorem bk_61_5 : am_bk 1010886 5 = some [.iload 4, .aload 0, .getstatic 728, .iload 1, .iaload, .if_icmp .ge 57, .aload 0, .getstatic 729, .iconst 24, .iload 1, .imul, .iload 4, .iadd, .iaload, .istore 5, .iload 5, .iload 2, .if_icmp .ne 45, .iload 3, .ifCond .ne 45, .iconst 1, .istore 3, .goto 51] := am_bk_of tb_61 rfl
theorem bk_61_45 : am_bk 1010886 45 = some [.aload 0, .iload 5, .invokevirtual 928868, .goto_w 51] := am_bk_of tb_61 rfl
theorem bk_61_51 : am_bk 1010886 51 = some [.iinc 4 1, .goto 5] := am_bk_of tb_61 rfl
theorem bk_61_57 : am_bk 1010886 57 = some [.return_] := am_bk_of tb_61 rfl
theorem tb_62 : am_tb[1027138 / 16384]? = some (1027138, am_m62) := rfl
theorem bk_62_0 : am_bk 1027138 0 = some [.aload 0, .aload 0, .invokeinterface 11 16, .multianewarray 11 32, .iconst 0, .istore 1, .goto_w 10] := am_bk_of tb_62 rfl
theorem bk_62_10 : am_bk 1027138 10 = some [.iload 1, .aload 0, .invokeinterface 11 32, .if_icmp .ge 36, .aload 0, .getstatic 737, .iload 1, .aload 0, .getstatic 721, .iload 1, .iaload, .iastore, .iinc 1 1, .goto 10] := am_bk_of tb_62 rfl
theorem bk_62_36 : am_bk 1027138 36 = some [.return_] := am_bk_of tb_62 rfl
theorem tb_63 : am_tb[1043522 / 16384]? = some (1043522, am_m63) := rfl
theorem bk_63_0 : am_bk 1043522 0 = some [.aload 0, .aload 0, .invokeinterface 11 32, .multianewarray 11 16, .iconst 0, .istore 1, .goto_w 10] := am_bk_of tb_63 rfl
theorem bk_63_10 : am_bk 1043522 10 = some [.iload 1, .aload 0, .invokeinterface 11 32, .if_icmp .ge 36, .aload 0, .getstatic 721, .iload 1, .aload 0, .getstatic 737, .iload 1, .iaload, .iastore, .iinc 1 1, .goto 10] := am_bk_of tb_63 rfl
theorem bk_63_36 : am_bk 1043522 36 = some [.return_] := am_bk_of tb_63 rfl
theorem tb_64 : am_tb[1059908 / 16384]? = some (1059908, am_m64) := rfl
theorem bk_64_0 : am_bk 1059908 0 = some [.aload 0, .aload 0, .iload 1, .invokevirtual 617540, .ifCond .ne 13, .iconst 1, .goto 14] := am_bk_of tb_64 rfl
theorem bk_64_13 : am_bk 1059908 13 = some [.iconst 0, .goto_w 14] := am_bk_of tb_64 rfl
theorem bk_64_14 : am_bk 1059908 14 = some [.iconst 0, .invokevirtual 601190, .ifCond .ne 23, .iconst 0, .ireturn] := am_bk_of tb_64 rfl
theorem bk_64_23 : am_bk 1059908 23 = some [.aload 0, .invokevirtual 1027138, .aload 0, .iconst 0, .aload 0, .invokeinterface 11 16, .iconst 8, .if_icmp .eq 53, .aload 0, .invokevirtual 978018, .aload 0, .iload 1, .invokevirtual 633924, .iadd, .iconst 8, .if_icmp .le 57, .goto_w 53] := am_bk_of tb_64 rfl
theorem bk_64_53 : am_bk 1059908 53 = some [.iconst 1, .goto 58] := am_bk_of tb_64 rfl
theorem bk_64_57 : am_bk 1059908 57 = some [.iconst 0, .goto_w 58] := am_bk_of tb_64 rfl
theorem bk_64_58 : am_bk 1059908 58 = some [.invokevirtual 601190, .ifCond .ne 66, .iconst 0, .ireturn] := am_bk_of tb_64 rfl
theorem bk_64_66 : am_bk 1059908 66 = some [.aload 0, .iload 1, .invokevirtual 928868, .aload 0, .invokevirtual 1043522, .aload 0, .invokeinterface 11 16, .ireturn] := am_bk_of tb_64 rfl
theorem tb_65 : am_tb[1076324 / 16384]? = some (1076324, am_m65) := rfl
theorem bk_65_0 : am_bk 1076324 0 = some [.aload 0, .iconst 0, .multianewarray 11 0, .iload 1, .ifCond .lt 17, .iload 1, .aload 0, .invokeinterface 11 16, .if_icmp .lt 19, .goto_w 17] := am_bk_of tb_65 rfl
theorem bk_65_17 : am_bk 1076324 17 = some [.iconst (-1), .ireturn] := am_bk_of tb_65 rfl
theorem bk_65_19 : am_bk 1076324 19 = some [.aload 0, .getstatic 721, .iload 1, .iaload, .istore 2, .aload 0, .invokevirtual 1027138, .aload 0, .iload 2, .invokevirtual 961668, .aload 0, .invokevirtual 1043522, .iload 2, .ireturn] := am_bk_of tb_65 rfl
theorem tb_66 : am_tb[1092676 / 16384]? = some (1092676, am_m66) := rfl
theorem bk_66_0 : am_bk 1092676 0 = some [.aload 0, .iconst 0, .multianewarray 11 0, .iload 1, .ifCond .lt 26, .iload 1, .aload 0, .invokeinterface 11 16, .if_icmp .ge 26, .aload 0, .getstatic 721, .iload 1, .iaload, .goto 27] := am_bk_of tb_66 rfl
theorem bk_66_26 : am_bk 1092676 26 = some [.iconst (-1), .goto_w 27] := am_bk_of tb_66 rfl
theorem bk_66_27 : am_bk 1092676 27 = some [.ireturn] := am_bk_of tb_66 rfl
theorem tb_67 : am_tb[1109060 / 16384]? = some (1109060, am_m67) := rfl
theorem bk_67_0 : am_bk 1109060 0 = some [.iload 1, .ifCond .ge 8, .iconst 0, .goto 14] := am_bk_of tb_67 rfl
theorem bk_67_8 : am_bk 1109060 8 = some [.aload 0, .getstatic 726, .iload 1, .iaload, .goto_w 14] := am_bk_of tb_67 rfl
theorem bk_67_14 : am_bk 1109060 14 = some [.ireturn] := am_bk_of tb_67 rfl
theorem tb_68 : am_tb[1125444 / 16384]? = some (1125444, am_m68) := rfl
theorem bk_68_0 : am_bk 1125444 0 = some [.iload 1, .ifCond .ge 8, .iconst 0, .goto 14] := am_bk_of tb_68 rfl
theorem bk_68_8 : am_bk 1125444 8 = some [.aload 0, .getstatic 727, .iload 1, .iaload, .goto_w 14] := am_bk_of tb_68 rfl
theorem bk_68_14 : am_bk 1125444 14 = some [.ireturn] := am_bk_of tb_68 rfl
theorem tb_69 : am_tb[1141954 / 16384]? = some (1141954, am_m69) := rfl
theorem bk_69_0 : am_bk 1141954 0 = some [.iconst 0, .istore 1, .goto_w 2] := am_bk_of tb_69 rfl
theorem bk_69_2 : am_bk 1141954 2 = some [.iload 1, .iconst 640, .if_icmp .ge 22, .aload 0, .getstatic 730, .iload 1, .iconst 0, .bastore, .iinc 1 1, .goto 2] := am_bk_of tb_69 rfl
theorem bk_69_22 : am_bk 1141954 22 = some [.iconst 0, .istore 1, .goto_w 24] := am_bk_of tb_69 rfl
theorem bk_69_24 : am_bk 1141954 24 = some [.iload 1, .iconst 5, .if_icmp .ge 187, .iconst 0, .istore 2, .aload 0, .getstatic 733, .iload 1, .iaload, .ifCond .lt 80, .aload 0, .getstatic 730, .aload 0, .getstatic 733, .iload 1, .iaload, .baload, .ifCond .ne 80, .aload 0, .getstatic 730, .aload 0, .getstatic 733, .iload 1, .iaload, .iconst 1, .bastore, .aload 0, .getstatic 731, .iconst 0, .aload 0, .getstatic 733, .iload 1, .iaload, .iastore, .iconst 1, .istore 2, .goto_w 80] := am_bk_of tb_69 rfl
theorem bk_69_80 : am_bk 1141954 80 = some [.iload 2, .ifCond .le 181, .iinc 2 (-1), .aload 0, .getstatic 731, .iload 2, .iaload, .istore 3, .aload 0, .getstatic 724, .iload 3, .iaload, .istore 4, .iload 4, .ifCond .lt 136, .aload 0, .getstatic 730, .iload 4, .baload, .ifCond .ne 136, .aload 0, .getstatic 730, .iload 4, .iconst 1, .bastore, .aload 0, .getstatic 731, .iload 2, .iload 4, .iastore, .iinc 2 1, .goto_w 136] := am_bk_of tb_69 rfl
theorem bk_69_136 : am_bk 1141954 136 = some [.aload 0, .getstatic 725, .iload 3, .iaload, .istore 5, .iload 5, .ifCond .lt 178, .aload 0, .getstatic 730, .iload 5, .baload, .ifCond .ne 178, .aload 0, .getstatic 730, .iload 5, .iconst 1, .bastore, .aload 0, .getstatic 731, .iload 2, .iload 5, .iastore, .iinc 2 1, .goto_w 178] := am_bk_of tb_69 rfl
theorem bk_69_178 : am_bk 1141954 178 = some [.goto 80] := am_bk_of tb_69 rfl
theorem bk_69_181 : am_bk 1141954 181 = some [.iinc 1 1, .goto 24] := am_bk_of tb_69 rfl
theorem bk_69_187 : am_bk 1141954 187 = some [.aload 0, .iconst 0, .multianewarray 11 28, .return_] := am_bk_of tb_69 rfl
theorem tb_70 : am_tb[1158346 / 16384]? = some (1158346, am_m70) := rfl
theorem bk_70_0 : am_bk 1158346 0 = some [.aload 0, .getstatic 730, .aload 0, .invokeinterface 11 28, .baload, .ifCond .eq 25, .aload 0, .dup, .invokeinterface 11 28, .iconst 1, .iadd, .multianewarray 11 28, .goto 0] := am_bk_of tb_70 rfl
theorem bk_70_25 : am_bk 1158346 25 = some [.aload 0, .getstatic 730, .aload 0, .invokeinterface 11 28, .iconst 1, .bastore, .aload 0, .getstatic 722, .aload 0, .invokeinterface 11 28, .iload 1, .iastore, .aload 0, .getstatic 723, .aload 0, .invokeinterface 11 28, .iload 2, .iastore, .aload 0, .getstatic 724, .aload 0, .invokeinterface 11 28, .iload 3, .iastore, .aload 0, .getstatic 725, .aload 0, .invokeinterface 11 28, .iload 4, .iastore, .aload 0, .getstatic 726, .aload 0, .invokeinterface 11 28, .iconst 1, .aload 0, .iload 3, .invokevirtual 1109060, .iadd, .aload 0, .iload 4, .invokevirtual 1109060, .iadd, .iastore, .aload 0, .getstatic 727, .aload 0, .invokeinterface 11 28, .iload 1, .iconst 9, .if_icmp .ne 117, .iconst 1, .goto 118] := am_bk_of tb_70 rfl
theorem bk_70_117 : am_bk 1158346 117 = some [.iconst 0, .goto_w 118] := am_bk_of tb_70 rfl
theorem bk_70_118 : am_bk 1158346 118 = some [.aload 0, .iload 3, .invokevirtual 1125444, .iadd, .aload 0, .iload 4, .invokevirtual 1125444, .iadd, .iastore, .aload 0, .getstatic 728, .aload 0, .invokeinterface 11 28, .aload 0, .invokeinterface 11 32, .iastore, .iconst 0, .istore 5, .goto_w 148] := am_bk_of tb_70 rfl
theorem bk_70_148 : am_bk 1158346 148 = some [.iload 5, .aload 0, .invokeinterface 11 32, .if_icmp .ge 185, .aload 0, .getstatic 729, .iconst 24, .aload 0, .invokeinterface 11 28, .imul, .iload 5, .iadd, .aload 0, .getstatic 737, .iload 5, .iaload, .iastore, .iinc 5 1, .goto 148] := am_bk_of tb_70 rfl
theorem bk_70_185 : am_bk 1158346 185 = some [.aload 0, .invokeinterface 11 28, .ireturn] := am_bk_of tb_70 rfl
theorem tb_71 : am_tb[1174698 / 16384]? = some (1174698, am_m71) := rfl
theorem bk_71_0 : am_bk 1174698 0 = some [.iload 1, .ifCond .eq 9, .iload 1, .iconst 1, .if_icmp .ne 17, .goto_w 9] := am_bk_of tb_71 rfl
theorem bk_71_9 : am_bk 1174698 9 = some [.aload 0, .iconst 0, .multianewarray 11 32, .goto 22] := am_bk_of tb_71 rfl
theorem bk_71_17 : am_bk 1174698 17 = some [.aload 0, .iload 3, .invokevirtual 994404, .goto_w 22] := am_bk_of tb_71 rfl
theorem bk_71_22 : am_bk 1174698 22 = some [.iload 1, .tableswitch 189 0 9 #[76, 91, 189, 91, 99, 189, 189, 125, 142, 170]] := am_bk_of tb_71 rfl
theorem bk_71_76 : am_bk 1174698 76 = some [.aload 0, .iload 2, .invokevirtual 928868, .aload 0, .iload 2, .iconst 1, .iadd, .invokevirtual 928868, .goto 203] := am_bk_of tb_71 rfl
theorem bk_71_91 : am_bk 1174698 91 = some [.aload 0, .iload 2, .invokevirtual 928868, .goto 203] := am_bk_of tb_71 rfl
theorem bk_71_99 : am_bk 1174698 99 = some [.aload 0, .aload 0, .iload 2, .invokevirtual 683108, .invokevirtual 961668, .aload 0, .aload 0, .iload 2, .invokevirtual 699492, .invokevirtual 961668, .aload 0, .iload 2, .invokevirtual 928868, .goto 203] := am_bk_of tb_71 rfl
theorem bk_71_125 : am_bk 1174698 125 = some [.aload 0, .aload 0, .iload 2, .invokevirtual 699492, .invokevirtual 961668, .aload 0, .iload 2, .invokevirtual 928868, .goto 203] := am_bk_of tb_71 rfl
theorem bk_71_142 : am_bk 1174698 142 = some [.aload 0, .aload 0, .iload 2, .invokevirtual 683108, .invokevirtual 961668, .aload 0, .iload 4, .aload 0, .iload 2, .invokevirtual 699492, .invokevirtual 1010886, .aload 0, .iload 2, .invokevirtual 928868, .goto 203] := am_bk_of tb_71 rfl
theorem bk_71_170 : am_bk 1174698 170 = some [.aload 0, .iload 2, .invokevirtual 961668, .aload 0, .iload 4, .aload 0, .iload 2, .invokevirtual 666692, .invokevirtual 1010886, .goto 203] := am_bk_of tb_71 rfl
theorem bk_71_189 : am_bk 1174698 189 = some [.aload 0, .aload 0, .iload 2, .invokevirtual 683108, .invokevirtual 961668, .aload 0, .iload 2, .invokevirtual 928868, .goto_w 203] := am_bk_of tb_71 rfl
theorem bk_71_203 : am_bk 1174698 203 = some [.aload 0, .iload 1, .iload 2, .iload 3, .iload 4, .invokevirtual 1158346, .ireturn] := am_bk_of tb_71 rfl
theorem tb_72 : am_tb[1179682 / 16384]? = some (1179682, am_m72) := rfl
theorem bk_72_0 : am_bk 1179682 0 = some [.iload 0, .ifCond .lt 9, .iload 0, .iconst 3, .if_icmp .le 13, .goto_w 9] := am_bk_of tb_72 rfl
theorem bk_72_9 : am_bk 1179682 9 = some [.iconst 1, .goto 14] := am_bk_of tb_72 rfl
theorem bk_72_13 : am_bk 1179682 13 = some [.iconst 0, .goto_w 14] := am_bk_of tb_72 rfl
theorem bk_72_14 : am_bk 1179682 14 = some [.freturn] := am_bk_of tb_72 rfl
theorem tb_73 : am_tb[1207432 / 16384]? = some (1207432, am_m73) := rfl
theorem bk_73_0 : am_bk 1207432 0 = some [.aload 0, .iload 2, .invokevirtual 994404, .aload 0, .getstatic 726, .iload 2, .iaload, .iconst 100, .if_icmp .gt 34, .aload 0, .invokeinterface 11 32, .iconst 8, .if_icmp .gt 34, .aload 0, .invokevirtual 978018, .iconst 12, .if_icmp .le 41, .goto_w 34] := am_bk_of tb_73 rfl
theorem bk_73_34 : am_bk 1207432 34 = some [.aload 0, .iload 3, .multianewarray 11 0, .iconst 0, .ireturn] := am_bk_of tb_73 rfl
theorem bk_73_41 : am_bk 1207432 41 = some [.aload 0, .getstatic 733, .iload 1, .iload 2, .iastore, .aload 0, .getstatic 726, .iload 2, .iaload, .ireturn] := am_bk_of tb_73 rfl
theorem tb_74 : am_tb[1223782 / 16384]? = some (1223782, am_m74) := rfl
theorem bk_74_0 : am_bk 1223782 0 = some [.aload 0, .iload 1, .invokestatic 1179682, .ifCond .ne 18, .iload 2, .ifCond .lt 18, .iload 2, .iconst 7, .if_icmp .le 22, .goto_w 18] := am_bk_of tb_74 rfl
theorem bk_74_18 : am_bk 1223782 18 = some [.iconst 1, .goto 23] := am_bk_of tb_74 rfl
theorem bk_74_22 : am_bk 1223782 22 = some [.iconst 0, .goto_w 23] := am_bk_of tb_74 rfl
theorem bk_74_23 : am_bk 1223782 23 = some [.iconst 0, .invokevirtual 601190, .ifCond .ne 32, .iconst 0, .ireturn] := am_bk_of tb_74 rfl
theorem bk_74_32 : am_bk 1223782 32 = some [.aload 0, .invokevirtual 1141954, .aload 0, .iload 1, .aload 0, .iconst 0, .iconst 2, .iload 2, .imul, .iconst (-1), .iconst (-1), .invokevirtual 1174698, .iconst 0, .invokevirtual 1207432, .ireturn] := am_bk_of tb_74 rfl
theorem tb_75 : am_tb[1240132 / 16384]? = some (1240132, am_m75) := rfl
theorem bk_75_0 : am_bk 1240132 0 = some [.aload 0, .iload 1, .invokestatic 1179682, .iconst 0, .invokevirtual 601190, .ifCond .ne 14, .iconst 0, .ireturn] := am_bk_of tb_75 rfl
theorem bk_75_14 : am_bk 1240132 14 = some [.aload 0, .invokevirtual 1141954, .aload 0, .iload 1, .aload 0, .iconst 1, .iconst 16, .iconst (-1), .iconst (-1), .invokevirtual 1174698, .iconst 0, .invokevirtual 1207432, .ireturn] := am_bk_of tb_75 rfl
theorem tb_76 : am_tb[1256516 / 16384]? = some (1256516, am_m76) := rfl
theorem bk_76_0 : am_bk 1256516 0 = some [.aload 0, .iload 1, .invokestatic 1179682, .iconst 0, .invokevirtual 601190, .ifCond .ne 14, .iconst 0, .ireturn] := am_bk_of tb_76 rfl
theorem bk_76_14 : am_bk 1256516 14 = some [.aload 0, .invokevirtual 1141954, .aload 0, .invokevirtual 1027138, .aload 0, .iconst 19, .invokevirtual 928868, .aload 0, .iload 1, .aload 0, .iconst 2, .iconst 19, .iconst (-1), .iconst (-1), .invokevirtual 1158346, .iconst 2, .invokevirtual 1207432, .ireturn] := am_bk_of tb_76 rfl
theorem tb_77 : am_tb[1272934 / 16384]? = some (1272934, am_m77) := rfl
theorem bk_77_0 : am_bk 1272934 0 = some [.aload 0, .iload 1, .invokevirtual 994404, .aload 0, .iload 2, .invokevirtual 945252, .ifCond .lt 17, .iconst 1, .goto 18] := am_bk_of tb_77 rfl
theorem bk_77_17 : am_bk 1272934 17 = some [.iconst 0, .goto_w 18] := am_bk_of tb_77 rfl
theorem bk_77_18 : am_bk 1272934 18 = some [.freturn] := am_bk_of tb_77 rfl
theorem tb_78 : am_tb[1289284 / 16384]? = some (1289284, am_m78) := rfl
theorem bk_78_0 : am_bk 1289284 0 = some [.aload 0, .iload 1, .invokestatic 1179682, .iload 1, .invokestatic 1179682, .ifCond .ne 25, .aload 0, .getstatic 733, .iload 1, .iaload, .ifCond .ge 25, .iconst 1, .goto 26] := am_bk_of tb_78 rfl
theorem bk_78_25 : am_bk 1289284 25 = some [.iconst 0, .goto_w 26] := am_bk_of tb_78 rfl
theorem bk_78_26 : am_bk 1289284 26 = some [.invokevirtual 601190, .ifCond .ne 34, .iconst 0, .ireturn] := am_bk_of tb_78 rfl
theorem bk_78_34 : am_bk 1289284 34 = some [.aload 0, .invokevirtual 1141954, .aload 0, .iload 1, .aload 0, .iconst 3, .iconst 17, .aload 0, .getstatic 733, .iload 1, .iaload, .iconst (-1), .invokevirtual 1174698, .iconst 3, .invokevirtual 1207432, .ireturn] := am_bk_of tb_78 rfl
theorem tb_79 : am_tb[1305736 / 16384]? = some (1305736, am_m79) := rfl
theorem bk_79_0 : am_bk 1305736 0 = some [.aload 0, .iload 1, .iload 2, .invokevirtual 1272934, .ifCond .ne 11, .iconst 0, .freturn] := am_bk_of tb_79 rfl
theorem bk_79_11 : am_bk 1305736 11 = some [.aload 0, .iload 2, .invokevirtual 961668, .aload 0, .iload 3, .invokevirtual 945252, .ifCond .lt 28, .iconst 1, .goto 29] := am_bk_of tb_79 rfl
theorem bk_79_28 : am_bk 1305736 28 = some [.iconst 0, .goto_w 29] := am_bk_of tb_79 rfl
theorem bk_79_29 : am_bk 1305736 29 = some [.freturn] := am_bk_of tb_79 rfl
theorem tb_80 : am_tb[1322086 / 16384]? = some (1322086, am_m80) := rfl
theorem bk_80_0 : am_bk 1322086 0 = some [.aload 0, .iload 1, .invokestatic 1179682, .ifCond .ne 25, .aload 0, .iload 2, .invokevirtual 617540, .ifCond .eq 25, .aload 0, .iload 2, .invokevirtual 650340, .iconst 1, .if_icmp .eq 29, .goto_w 25] := am_bk_of tb_80 rfl
theorem bk_80_25 : am_bk 1322086 25 = some [.iconst 1, .goto 30] := am_bk_of tb_80 rfl
theorem bk_80_29 : am_bk 1322086 29 = some [.iconst 0, .goto_w 30] := am_bk_of tb_80 rfl
theorem bk_80_30 : am_bk 1322086 30 = some [.iconst 0, .invokevirtual 601190, .ifCond .ne 39, .iconst 0, .ireturn] := am_bk_of tb_80 rfl
theorem bk_80_39 : am_bk 1322086 39 = some [.aload 0, .iconst 0, .aload 0, .getstatic 733, .iload 1, .iaload, .ifCond .lt 73, .aload 0, .aload 0, .getstatic 733, .iload 1, .iaload, .aload 0, .iload 2, .invokevirtual 683108, .aload 0, .iload 2, .invokevirtual 699492, .invokevirtual 1305736, .ifCond .ne 77, .goto_w 73] := am_bk_of tb_80 rfl
theorem bk_80_73 : am_bk 1322086 73 = some [.iconst 1, .goto 78] := am_bk_of tb_80 rfl
theorem bk_80_77 : am_bk 1322086 77 = some [.iconst 0, .goto_w 78] := am_bk_of tb_80 rfl
theorem bk_80_78 : am_bk 1322086 78 = some [.invokevirtual 601190, .ifCond .ne 86, .iconst 0, .ireturn] := am_bk_of tb_80 rfl
theorem bk_80_86 : am_bk 1322086 86 = some [.aload 0, .invokevirtual 1141954, .aload 0, .iload 1, .aload 0, .iconst 4, .iload 2, .aload 0, .getstatic 733, .iload 1, .iaload, .iconst (-1), .invokevirtual 1174698, .iconst 3, .invokevirtual 1207432, .ireturn] := am_bk_of tb_80 rfl
theorem tb_81 : am_tb[1338504 / 16384]? = some (1338504, am_m81) := rfl
theorem bk_81_0 : am_bk 1338504 0 = some [.aload 0, .iload 1, .invokestatic 1179682, .ifCond .ne 25, .aload 0, .iload 2, .invokevirtual 617540, .ifCond .eq 25, .aload 0, .iload 2, .invokevirtual 650340, .iconst 2, .if_icmp .eq 29, .goto_w 25] := am_bk_of tb_81 rfl
theorem bk_81_25 : am_bk 1338504 25 = some [.iconst 1, .goto 30] := am_bk_of tb_81 rfl
theorem bk_81_29 : am_bk 1338504 29 = some [.iconst 0, .goto_w 30] := am_bk_of tb_81 rfl
theorem bk_81_30 : am_bk 1338504 30 = some [.iconst 0, .invokevirtual 601190, .ifCond .ne 39, .iconst 0, .ireturn] := am_bk_of tb_81 rfl
theorem bk_81_39 : am_bk 1338504 39 = some [.aload 0, .iconst 0, .aload 0, .getstatic 733, .iload 1, .iaload, .ifCond .lt 80, .aload 0, .aload 0, .getstatic 733, .iload 1, .iaload, .iload 3, .ifCond .eq 69, .aload 0, .iload 2, .invokevirtual 699492, .goto 74] := am_bk_of tb_81 rfl
theorem bk_81_69 : am_bk 1338504 69 = some [.aload 0, .iload 2, .invokevirtual 683108, .goto_w 74] := am_bk_of tb_81 rfl
theorem bk_81_74 : am_bk 1338504 74 = some [.invokevirtual 1272934, .ifCond .ne 84, .goto_w 80] := am_bk_of tb_81 rfl
theorem bk_81_80 : am_bk 1338504 80 = some [.iconst 1, .goto 85] := am_bk_of tb_81 rfl
theorem bk_81_84 : am_bk 1338504 84 = some [.iconst 0, .goto_w 85] := am_bk_of tb_81 rfl
theorem bk_81_85 : am_bk 1338504 85 = some [.invokevirtual 601190, .ifCond .ne 93, .iconst 0, .ireturn] := am_bk_of tb_81 rfl
theorem bk_81_93 : am_bk 1338504 93 = some [.aload 0, .invokevirtual 1141954, .aload 0, .iload 1, .aload 0, .iload 3, .ifCond .eq 109, .iconst 7, .goto 111] := am_bk_of tb_81 rfl
theorem bk_81_109 : am_bk 1338504 109 = some [.iconst 6, .goto_w 111] := am_bk_of tb_81 rfl
theorem bk_81_111 : am_bk 1338504 111 = some [.iload 2, .aload 0, .getstatic 733, .iload 1, .iaload, .iconst (-1), .invokevirtual 1174698, .iconst 3, .invokevirtual 1207432, .ireturn] := am_bk_of tb_81 rfl
theorem tb_82 : am_tb[1355082 / 16384]? = some (1355082, am_m82) := rfl
theorem bk_82_0 : am_bk 1355082 0 = some [.aload 0, .getstatic 728, .iload 1, .iaload, .aload 0, .getstatic 728, .iload 3, .iaload, .if_icmp .eq 17, .iconst 0, .freturn] := am_bk_of tb_82 rfl
theorem bk_82_17 : am_bk 1355082 17 = some [.aload 0, .iload 1, .invokevirtual 994404, .aload 0, .iload 2, .invokevirtual 961668, .iconst 0, .istore 5, .iconst 0, .istore 6, .iconst 1, .istore 7, .iconst 0, .istore 8, .goto_w 39] := am_bk_of tb_82 rfl
theorem bk_82_39 : am_bk 1355082 39 = some [.iload 8, .aload 0, .getstatic 728, .iload 3, .iaload, .if_icmp .ge 115, .aload 0, .getstatic 729, .iconst 24, .iload 3, .imul, .iload 8, .iadd, .iaload, .istore 9, .iload 9, .iload 4, .if_icmp .ne 82, .iload 5, .ifCond .ne 82, .iconst 1, .istore 5, .goto 109] := am_bk_of tb_82 rfl
theorem bk_82_82 : am_bk 1355082 82 = some [.iload 7, .ifCond .eq 103, .aload 0, .getstatic 737, .iload 6, .iaload, .iload 9, .if_icmp .ne 103, .iconst 1, .goto 104] := am_bk_of tb_82 rfl
theorem bk_82_103 : am_bk 1355082 103 = some [.iconst 0, .goto_w 104] := am_bk_of tb_82 rfl
theorem bk_82_104 : am_bk 1355082 104 = some [.istore 7, .iinc 6 1, .goto_w 109] := am_bk_of tb_82 rfl
theorem bk_82_109 : am_bk 1355082 109 = some [.iinc 8 1, .goto 39] := am_bk_of tb_82 rfl
theorem bk_82_115 : am_bk 1355082 115 = some [.iload 7, .freturn] := am_bk_of tb_82 rfl
theorem tb_83 : am_tb[1371438 / 16384]? = some (1371438, am_m83) := rfl
theorem bk_83_0 : am_bk 1371438 0 = some [.aload 0, .getstatic 733, .iload 1, .iaload, .istore 7, .aload 0, .getstatic 733, .iload 2, .iaload, .istore 8, .aload 0, .iconst 0, .iload 7, .ifCond .lt 70, .iload 8, .ifCond .lt 70, .aload 0, .iload 7, .iload 5, .invokevirtual 1272934, .ifCond .eq 70, .aload 0, .iload 8, .iload 6, .invokevirtual 1272934, .ifCond .eq 70, .iload 3, .iconst 5, .if_icmp .ne 74, .aload 0, .iload 7, .iload 5, .iload 8, .iload 6, .invokevirtual 1355082, .ifCond .ne 74, .goto_w 70] := am_bk_of tb_83 rfl
theorem bk_83_70 : am_bk 1371438 70 = some [.iconst 1, .goto 75] := am_bk_of tb_83 rfl
theorem bk_83_74 : am_bk 1371438 74 = some [.iconst 0, .goto_w 75] := am_bk_of tb_83 rfl
theorem bk_83_75 : am_bk 1371438 75 = some [.invokevirtual 601190, .ifCond .ne 83, .iconst 0, .ireturn] := am_bk_of tb_83 rfl
theorem bk_83_83 : am_bk 1371438 83 = some [.aload 0, .invokevirtual 1141954, .aload 0, .iload 1, .aload 0, .iload 3, .iload 4, .iload 7, .iload 8, .invokevirtual 1174698, .iconst 3, .invokevirtual 1207432, .ireturn] := am_bk_of tb_83 rfl
theorem tb_84 : am_tb[1387656 / 16384]? = some (1387656, am_m84) := rfl
theorem bk_84_0 : am_bk 1387656 0 = some [.aload 0, .iload 1, .invokestatic 1179682, .ifCond .ne 32, .iload 2, .invokestatic 1179682, .ifCond .ne 32, .aload 0, .iload 3, .invokevirtual 617540, .ifCond .eq 32, .aload 0, .iload 3, .invokevirtual 650340, .iconst 3, .if_icmp .eq 36, .goto_w 32] := am_bk_of tb_84 rfl
theorem bk_84_32 : am_bk 1387656 32 = some [.iconst 1, .goto 37] := am_bk_of tb_84 rfl
theorem bk_84_36 : am_bk 1387656 36 = some [.iconst 0, .goto_w 37] := am_bk_of tb_84 rfl
theorem bk_84_37 : am_bk 1387656 37 = some [.iconst 0, .invokevirtual 601190, .ifCond .ne 46, .iconst 0, .ireturn] := am_bk_of tb_84 rfl
theorem bk_84_46 : am_bk 1387656 46 = some [.aload 0, .iload 1, .iload 2, .iconst 5, .iload 3, .aload 0, .iload 3, .invokevirtual 683108, .aload 0, .iload 3, .invokevirtual 699492, .invokevirtual 1371438, .ireturn] := am_bk_of tb_84 rfl
theorem tb_85 : am_tb[1404040 / 16384]? = some (1404040, am_m85) := rfl
theorem bk_85_0 : am_bk 1404040 0 = some [.aload 0, .iload 1, .invokestatic 1179682, .ifCond .ne 31, .iload 2, .invokestatic 1179682, .ifCond .ne 31, .aload 0, .iload 3, .invokevirtual 617540, .ifCond .eq 31, .aload 0, .iload 3, .invokevirtual 650340, .ifCond .eq 35, .goto_w 31] := am_bk_of tb_85 rfl
theorem bk_85_31 : am_bk 1404040 31 = some [.iconst 1, .goto 36] := am_bk_of tb_85 rfl
theorem bk_85_35 : am_bk 1404040 35 = some [.iconst 0, .goto_w 36] := am_bk_of tb_85 rfl
theorem bk_85_36 : am_bk 1404040 36 = some [.iconst 0, .invokevirtual 601190, .ifCond .ne 45, .iconst 0, .ireturn] := am_bk_of tb_85 rfl
theorem bk_85_45 : am_bk 1404040 45 = some [.aload 0, .iload 1, .iload 2, .iconst 8, .iload 3, .aload 0, .iload 3, .invokevirtual 683108, .aload 0, .iload 3, .invokevirtual 699492, .invokevirtual 1371438, .ireturn] := am_bk_of tb_85 rfl
theorem tb_86 : am_tb[1420424 / 16384]? = some (1420424, am_m86) := rfl
theorem bk_86_0 : am_bk 1420424 0 = some [.aload 0, .iload 1, .invokestatic 1179682, .ifCond .ne 23, .iload 2, .invokestatic 1179682, .ifCond .ne 23, .aload 0, .iload 3, .invokevirtual 617540, .ifCond .ne 27, .goto_w 23] := am_bk_of tb_86 rfl
theorem bk_86_23 : am_bk 1420424 23 = some [.iconst 1, .goto 28] := am_bk_of tb_86 rfl
theorem bk_86_27 : am_bk 1420424 27 = some [.iconst 0, .goto_w 28] := am_bk_of tb_86 rfl
theorem bk_86_28 : am_bk 1420424 28 = some [.iconst 0, .invokevirtual 601190, .ifCond .ne 37, .iconst 0, .ireturn] := am_bk_of tb_86 rfl
theorem bk_86_37 : am_bk 1420424 37 = some [.aload 0, .iload 1, .iload 2, .iconst 9, .iload 3, .iload 3, .aload 0, .iload 3, .invokevirtual 666692, .invokevirtual 1371438, .ireturn] := am_bk_of tb_86 rfl
theorem tb_87 : am_tb[1436772 / 16384]? = some (1436772, am_m87) := rfl
theorem bk_87_0 : am_bk 1436772 0 = some [.aload 0, .iload 1, .invokestatic 1179682, .iconst 0, .invokevirtual 601190, .ifCond .ne 14, .iconst 0, .ireturn] := am_bk_of tb_87 rfl
theorem bk_87_14 : am_bk 1436772 14 = some [.aload 0, .aload 0, .getstatic 733, .iload 1, .iaload, .invokevirtual 1109060, .istore 2, .aload 0, .getstatic 733, .iload 1, .iconst (-1), .iastore, .iload 2, .ireturn] := am_bk_of tb_87 rfl
theorem tb_88 : am_tb[1453250 / 16384]? = some (1453250, am_m88) := rfl
theorem bk_88_0 : am_bk 1453250 0 = some [.jsr_w 1, .lstore 1, .iconst 0, .istore 3, .iconst 0, .istore 4, .goto_w 7] := am_bk_of tb_88 rfl
theorem bk_88_7 : am_bk 1453250 7 = some [.iload 4, .aload 0, .invokeinterface 11 32, .if_icmp .ge 55, .jsr_w 128, .lload 1, .lmul, .aload 0, .getstatic 737, .iload 4, .iaload, .i2l, .ladd, .lstore 1, .iload 3, .iconst 2, .aload 0, .aload 0, .getstatic 737, .iload 4, .iaload, .invokevirtual 633924, .imul, .iadd, .iconst 1, .isub, .istore 3, .iinc 4 1, .goto 7] := am_bk_of tb_88 rfl
theorem bk_88_55 : am_bk 1453250 55 = some [.iconst 0, .istore 4, .goto_w 58] := am_bk_of tb_88 rfl
theorem bk_88_58 : am_bk 1453250 58 = some [.iload 4, .aload 0, .invokeinterface 11 34, .if_icmp .ge 85, .aload 0, .getstatic 741, .iload 4, .laload, .lload 1, .lcmp, .ifCond .eq 85, .iinc 4 1, .goto 58] := am_bk_of tb_88 rfl
theorem bk_88_85 : am_bk 1453250 85 = some [.iload 4, .aload 0, .invokeinterface 11 34, .if_icmp .ne 185, .aload 0, .getstatic 741, .iload 4, .lload 1, .lastore, .aload 0, .getstatic 742, .iload 4, .iload 3, .iastore, .aload 0, .getstatic 740, .iload 4, .aload 0, .invokeinterface 11 32, .iastore, .aload 0, .getstatic 743, .iload 4, .iconst 0, .iastore, .aload 0, .getstatic 747, .iload 4, .iconst 0, .bastore, .iconst 0, .istore 5, .goto_w 140] := am_bk_of tb_88 rfl
theorem bk_88_140 : am_bk 1453250 140 = some [.iload 5, .aload 0, .invokeinterface 11 32, .if_icmp .ge 175, .aload 0, .getstatic 739, .iconst 8, .iload 4, .imul, .iload 5, .iadd, .aload 0, .getstatic 737, .iload 5, .iaload, .iastore, .iinc 5 1, .goto 140] := am_bk_of tb_88 rfl
theorem bk_88_175 : am_bk 1453250 175 = some [.aload 0, .dup, .invokeinterface 11 34, .iconst 1, .iadd, .multianewarray 11 34, .goto_w 185] := am_bk_of tb_88 rfl
theorem bk_88_185 : am_bk 1453250 185 = some [.iload 4, .ireturn] := am_bk_of tb_88 rfl
theorem tb_89 : am_tb[1469738 / 16384]? = some (1469738, am_m89) := rfl
theorem bk_89_0 : am_bk 1469738 0 = some [.aload 0, .iconst 0, .multianewarray 11 32, .iconst 0, .istore 5, .iconst 0, .istore 6, .iconst 0, .istore 7, .goto_w 14] := am_bk_of tb_89 rfl
theorem bk_89_14 : am_bk 1469738 14 = some [.iload 7, .aload 0, .getstatic 740, .iload 1, .iaload, .if_icmp .ge 82, .aload 0, .getstatic 739, .iconst 8, .iload 1, .imul, .iload 7, .iadd, .iaload, .istore 8, .iload 8, .iload 2, .if_icmp .ne 56, .iload 5, .ifCond .ne 56, .iconst 1, .istore 5, .goto 76] := am_bk_of tb_89 rfl
theorem bk_89_56 : am_bk 1469738 56 = some [.iload 4, .iload 6, .ishr, .iconst 1, .iand, .iconst 1, .if_icmp .ne 73, .aload 0, .iload 8, .invokevirtual 928868, .goto_w 73] := am_bk_of tb_89 rfl
theorem bk_89_73 : am_bk 1469738 73 = some [.iinc 6 1, .goto_w 76] := am_bk_of tb_89 rfl
theorem bk_89_76 : am_bk 1469738 76 = some [.iinc 7 1, .goto 14] := am_bk_of tb_89 rfl
theorem bk_89_82 : am_bk 1469738 82 = some [.iload 3, .iconst 2, .irem, .iconst 1, .if_icmp .ne 98, .aload 0, .aload 0, .iload 2, .invokevirtual 683108, .invokevirtual 928868, .goto_w 98] := am_bk_of tb_89 rfl
theorem bk_89_98 : am_bk 1469738 98 = some [.iload 3, .iconst 1, .if_icmp .le 112, .aload 0, .aload 0, .iload 2, .invokevirtual 699492, .invokevirtual 928868, .goto_w 112] := am_bk_of tb_89 rfl
theorem bk_89_112 : am_bk 1469738 112 = some [.aload 0, .invokevirtual 1453250, .ireturn] := am_bk_of tb_89 rfl
theorem tb_90 : am_tb[1485956 / 16384]? = some (1485956, am_m90) := rfl
theorem bk_90_0 : am_bk 1485956 0 = some [.iconst 0, .istore 2, .goto_w 2] := am_bk_of tb_90 rfl
theorem bk_90_2 : am_bk 1485956 2 = some [.iload 2, .aload 0, .getstatic 740, .iload 1, .iaload, .if_icmp .ge 45, .aload 0, .getstatic 739, .iconst 8, .iload 1, .imul, .iload 2, .iadd, .iaload, .istore 3, .iload 3, .iconst 16, .if_icmp .le 39, .iload 3, .iconst 2, .irem, .iconst 1, .if_icmp .ne 39, .iload 3, .ireturn] := am_bk_of tb_90 rfl
theorem bk_90_39 : am_bk 1485956 39 = some [.iinc 2 1, .goto 2] := am_bk_of tb_90 rfl
theorem bk_90_45 : am_bk 1485956 45 = some [.iconst (-1), .ireturn] := am_bk_of tb_90 rfl
theorem tb_91 : am_tb[1502412 / 16384]? = some (1502412, am_m91) := rfl
theorem bk_91_0 : am_bk 1502412 0 = some [.aload 0, .getstatic 743, .iload 1, .iaload, .ifCond .ne 71, .iload 4, .ifCond .lt 24, .aload 0, .getstatic 743, .iload 4, .iaload, .ifCond .le 71, .goto_w 24] := am_bk_of tb_91 rfl
theorem bk_91_24 : am_bk 1502412 24 = some [.iload 5, .ifCond .lt 39, .aload 0, .getstatic 743, .iload 5, .iaload, .ifCond .le 71, .goto_w 39] := am_bk_of tb_91 rfl
theorem bk_91_39 : am_bk 1502412 39 = some [.aload 0, .getstatic 743, .iload 1, .iload 2, .iconst 1, .iadd, .iastore, .aload 0, .getstatic 744, .iload 1, .iload 3, .iastore, .aload 0, .getstatic 745, .iload 1, .iload 4, .iastore, .aload 0, .getstatic 746, .iload 1, .iload 5, .iastore, .goto_w 71] := am_bk_of tb_91 rfl
theorem bk_91_71 : am_bk 1502412 71 = some [.return_] := am_bk_of tb_91 rfl
theorem tb_92 : am_tb[1518756 / 16384]? = some (1518756, am_m92) := rfl
theorem bk_92_0 : am_bk 1518756 0 = some [.aload 0, .iload 1, .invokevirtual 1485956, .istore 2, .iload 2, .iconst 19, .if_icmp .ne 24, .aload 0, .iload 1, .iconst 2, .iload 2, .iconst (-1), .iconst (-1), .invokevirtual 1502412, .goto 126] := am_bk_of tb_92 rfl
theorem bk_92_24 : am_bk 1518756 24 = some [.iload 2, .iconst 17, .if_icmp .ne 51, .aload 0, .iload 1, .iload 2, .iconst 0, .iconst (-1), .invokevirtual 1469738, .istore 3, .aload 0, .iload 1, .iconst 3, .iload 2, .iload 3, .iconst (-1), .invokevirtual 1502412, .goto 126] := am_bk_of tb_92 rfl
theorem bk_92_51 : am_bk 1518756 51 = some [.iload 2, .ifCond .le 85, .aload 0, .iload 2, .invokevirtual 650340, .iconst 1, .if_icmp .ne 85, .aload 0, .iload 1, .iload 2, .iconst 3, .iconst (-1), .invokevirtual 1469738, .istore 3, .aload 0, .iload 1, .iconst 4, .iload 2, .iload 3, .iconst (-1), .invokevirtual 1502412, .goto 126] := am_bk_of tb_92 rfl
theorem bk_92_85 : am_bk 1518756 85 = some [.iload 2, .ifCond .le 121, .aload 0, .iload 1, .iload 2, .iconst 1, .iconst (-1), .invokevirtual 1469738, .istore 3, .aload 0, .iload 1, .iload 2, .iconst 2, .iconst (-1), .invokevirtual 1469738, .istore 4, .aload 0, .iload 1, .iconst 5, .iload 2, .iload 3, .iload 4, .invokevirtual 1502412, .goto 126] := am_bk_of tb_92 rfl
theorem bk_92_121 : am_bk 1518756 121 = some [.aload 0, .iload 1, .invokevirtual 1535140, .goto_w 126] := am_bk_of tb_92 rfl
theorem bk_92_126 : am_bk 1518756 126 = some [.return_] := am_bk_of tb_92 rfl
theorem tb_93 : am_tb[1535140 / 16384]? = some (1535140, am_m93) := rfl
theorem bk_93_0 : am_bk 1535140 0 = some [.aload 0, .getstatic 740, .iload 1, .iaload, .ifCond .ne 13, .iconst (-1), .goto 22] := am_bk_of tb_93 rfl
theorem bk_93_13 : am_bk 1535140 13 = some [.aload 0, .getstatic 739, .iconst 8, .iload 1, .imul, .iaload, .goto_w 22] := am_bk_of tb_93 rfl
theorem bk_93_22 : am_bk 1535140 22 = some [.istore 2, .aload 0, .getstatic 740, .iload 1, .iaload, .iconst 2, .if_icmp .ne 71, .iload 2, .iconst 16, .if_icmp .ge 71, .iload 2, .iconst 2, .irem, .ifCond .ne 71, .aload 0, .getstatic 739, .iconst 8, .iload 1, .imul, .iconst 1, .iadd, .iaload, .iload 2, .iconst 1, .iadd, .if_icmp .ne 71, .aload 0, .iload 1, .iconst 0, .iload 2, .iconst (-1), .iconst (-1), .invokevirtual 1502412, .goto_w 71] := am_bk_of tb_93 rfl
theorem bk_93_71 : am_bk 1535140 71 = some [.aload 0, .getstatic 740, .iload 1, .iaload, .iconst 1, .if_icmp .ne 96, .iload 2, .iconst 16, .if_icmp .ne 96, .aload 0, .iload 1, .iconst 1, .iload 2, .iconst (-1), .iconst (-1), .invokevirtual 1502412, .goto_w 96] := am_bk_of tb_93 rfl
theorem bk_93_96 : am_bk 1535140 96 = some [.iconst 0, .istore 3, .goto_w 98] := am_bk_of tb_93 rfl
theorem bk_93_98 : am_bk 1535140 98 = some [.iload 3, .aload 0, .getstatic 740, .iload 1, .iaload, .if_icmp .ge 148, .aload 0, .getstatic 739, .iconst 8, .iload 1, .imul, .iload 3, .iadd, .iaload, .istore 4, .iload 4, .iconst 20, .if_icmp .lt 142, .iload 4, .iconst 2, .irem, .ifCond .ne 142, .aload 0, .iload 1, .iload 4, .invokevirtual 1551558, .goto_w 142] := am_bk_of tb_93 rfl
theorem bk_93_142 : am_bk 1535140 142 = some [.iinc 3 1, .goto 98] := am_bk_of tb_93 rfl
theorem bk_93_148 : am_bk 1535140 148 = some [.return_] := am_bk_of tb_93 rfl
theorem tb_94 : am_tb[1551558 / 16384]? = some (1551558, am_m94) := rfl
theorem bk_94_0 : am_bk 1551558 0 = some [.aload 0, .iload 2, .invokevirtual 650340, .iconst 2, .if_icmp .ne 50, .aload 0, .iload 1, .iload 2, .iconst 1, .iconst (-1), .invokevirtual 1469738, .istore 3, .aload 0, .iload 1, .iconst 6, .iload 2, .iload 3, .iconst (-1), .invokevirtual 1502412, .aload 0, .iload 1, .iload 2, .iconst 2, .iconst (-1), .invokevirtual 1469738, .istore 4, .aload 0, .iload 1, .iconst 7, .iload 2, .iload 4, .iconst (-1), .invokevirtual 1502412, .return_] := am_bk_of tb_94 rfl
theorem bk_94_50 : am_bk 1551558 50 = some [.iconst 0, .istore 3, .goto_w 52] := am_bk_of tb_94 rfl
theorem bk_94_52 : am_bk 1551558 52 = some [.iload 3, .iconst 1, .aload 0, .getstatic 740, .iload 1, .iaload, .iconst 1, .isub, .ishl, .if_icmp .ge 106, .aload 0, .iload 1, .iload 2, .iconst 1, .iload 3, .invokevirtual 1469738, .istore 4, .aload 0, .iload 1, .iload 2, .iconst 2, .iload 3, .iconst (-1), .ixor, .invokevirtual 1469738, .istore 5, .aload 0, .iload 1, .iconst 8, .iload 2, .iload 4, .iload 5, .invokevirtual 1502412, .iinc 3 1, .goto 52] := am_bk_of tb_94 rfl
theorem bk_94_106 : am_bk 1551558 106 = some [.return_] := am_bk_of tb_94 rfl
theorem tb_95 : am_tb[1567874 / 16384]? = some (1567874, am_m95) := rfl
theorem bk_95_0 : am_bk 1567874 0 = some [.aload 0, .iconst 0, .multianewarray 11 34, .aload 0, .invokevirtual 1027138, .aload 0, .invokevirtual 1453250, .istore 1, .iload 1, .istore 2, .goto_w 16] := am_bk_of tb_95 rfl
theorem bk_95_16 : am_bk 1567874 16 = some [.iload 2, .aload 0, .invokeinterface 11 34, .if_icmp .ge 42, .aload 0, .iload 2, .invokevirtual 1518756, .aload 0, .getstatic 743, .iload 2, .iconst 0, .iastore, .iinc 2 1, .goto 16] := am_bk_of tb_95 rfl
theorem bk_95_42 : am_bk 1567874 42 = some [.iconst 0, .istore 2, .goto_w 44] := am_bk_of tb_95 rfl
theorem bk_95_44 : am_bk 1567874 44 = some [.iload 2, .iconst 16, .if_icmp .ge 87, .iconst 0, .istore 3, .goto_w 52] := am_bk_of tb_95 rfl
theorem bk_95_52 : am_bk 1567874 52 = some [.iload 3, .aload 0, .invokeinterface 11 34, .if_icmp .ge 81, .aload 0, .getstatic 742, .iload 3, .iaload, .iload 2, .if_icmp .ne 75, .aload 0, .iload 3, .invokevirtual 1518756, .goto_w 75] := am_bk_of tb_95 rfl
theorem bk_95_75 : am_bk 1567874 75 = some [.iinc 3 1, .goto 52] := am_bk_of tb_95 rfl
theorem bk_95_81 : am_bk 1567874 81 = some [.iinc 2 1, .goto 44] := am_bk_of tb_95 rfl
theorem bk_95_87 : am_bk 1567874 87 = some [.aload 0, .getstatic 743, .iconst 0, .iaload, .ifCond .le 100, .iconst 1, .goto 101] := am_bk_of tb_95 rfl
theorem bk_95_100 : am_bk 1567874 100 = some [.iconst 0, .goto_w 101] := am_bk_of tb_95 rfl
theorem bk_95_101 : am_bk 1567874 101 = some [.freturn] := am_bk_of tb_95 rfl
theorem tb_96 : am_tb[1584260 / 16384]? = some (1584260, am_m96) := rfl
theorem bk_96_0 : am_bk 1584260 0 = some [.aload 0, .iload 1, .invokestatic 1179682, .iconst 0, .invokevirtual 601190, .ifCond .eq 19, .aload 0, .invokevirtual 1567874, .ifCond .ne 21, .goto_w 19] := am_bk_of tb_96 rfl
theorem bk_96_19 : am_bk 1584260 19 = some [.iconst 0, .freturn] := am_bk_of tb_96 rfl
theorem bk_96_21 : am_bk 1584260 21 = some [.aload 0, .invokevirtual 1141954, .aload 0, .getstatic 747, .iconst 0, .iconst 1, .bastore, .iconst 15, .istore 2, .goto_w 35] := am_bk_of tb_96 rfl
theorem bk_96_35 : am_bk 1584260 35 = some [.iload 2, .ifCond .lt 100, .iconst 0, .istore 3, .goto_w 41] := am_bk_of tb_96 rfl
theorem bk_96_41 : am_bk 1584260 41 = some [.iload 3, .aload 0, .invokeinterface 11 34, .if_icmp .ge 94, .aload 0, .getstatic 742, .iload 3, .iaload, .iload 2, .if_icmp .ne 88, .aload 0, .getstatic 747, .iload 3, .baload, .ifCond .eq 88, .aload 0, .aload 0, .getstatic 745, .iload 3, .iaload, .invokevirtual 1600580, .aload 0, .aload 0, .getstatic 746, .iload 3, .iaload, .invokevirtual 1600580, .goto_w 88] := am_bk_of tb_96 rfl
theorem bk_96_88 : am_bk 1584260 88 = some [.iinc 3 1, .goto 41] := am_bk_of tb_96 rfl
theorem bk_96_94 : am_bk 1584260 94 = some [.iinc 2 (-1), .goto 35] := am_bk_of tb_96 rfl
theorem bk_96_100 : am_bk 1584260 100 = some [.iconst 0, .istore 2, .goto_w 102] := am_bk_of tb_96 rfl
theorem bk_96_102 : am_bk 1584260 102 = some [.iload 2, .iconst 16, .if_icmp .ge 160, .iconst 0, .istore 3, .goto_w 110] := am_bk_of tb_96 rfl
theorem bk_96_110 : am_bk 1584260 110 = some [.iload 3, .aload 0, .invokeinterface 11 34, .if_icmp .ge 154, .aload 0, .getstatic 742, .iload 3, .iaload, .iload 2, .if_icmp .ne 148, .aload 0, .getstatic 747, .iload 3, .baload, .ifCond .eq 148, .aload 0, .getstatic 748, .iload 3, .aload 0, .iload 3, .invokevirtual 1617060, .iastore, .goto_w 148] := am_bk_of tb_96 rfl
theorem bk_96_148 : am_bk 1584260 148 = some [.iinc 3 1, .goto 110] := am_bk_of tb_96 rfl
theorem bk_96_154 : am_bk 1584260 154 = some [.iinc 2 1, .goto 102] := am_bk_of tb_96 rfl
theorem bk_96_160 : am_bk 1584260 160 = some [.aload 0, .getstatic 733, .iload 1, .aload 0, .getstatic 748, .iconst 0, .iaload, .iastore, .iconst 1, .freturn] := am_bk_of tb_96 rfl
theorem tb_97 : am_tb[1600580 / 16384]? = some (1600580, am_m97) := rfl
theorem bk_97_0 : am_bk 1600580 0 = some [.iload 1, .ifCond .lt 11, .aload 0, .getstatic 747, .iload 1, .iconst 1, .bastore, .goto_w 11] := am_bk_of tb_97 rfl
theorem bk_97_11 : am_bk 1600580 11 = some [.return_] := am_bk_of tb_97 rfl
theorem tb_98 : am_tb[1617060 / 16384]? = some (1617060, am_m98) := rfl
theorem bk_98_0 : am_bk 1617060 0 = some [.aload 0, .getstatic 743, .iload 1, .iaload, .iconst 1, .isub, .istore 2, .iload 2, .iconst 2, .if_icmp .ne 67, .aload 0, .aload 0, .getstatic 740, .iload 1, .iaload, .multianewarray 11 32, .iconst 0, .istore 3, .goto_w 26] := am_bk_of tb_98 rfl
theorem bk_98_26 : am_bk 1617060 26 = some [.iload 3, .aload 0, .invokeinterface 11 32, .if_icmp .ge 57, .aload 0, .getstatic 737, .iload 3, .aload 0, .getstatic 739, .iconst 8, .iload 1, .imul, .iload 3, .iadd, .iaload, .iastore, .iinc 3 1, .goto 26] := am_bk_of tb_98 rfl
theorem bk_98_57 : am_bk 1617060 57 = some [.aload 0, .iconst 2, .iconst 19, .iconst (-1), .iconst (-1), .invokevirtual 1158346, .ireturn] := am_bk_of tb_98 rfl
theorem bk_98_67 : am_bk 1617060 67 = some [.aload 0, .getstatic 745, .iload 1, .iaload, .ifCond .ge 80, .iconst (-1), .goto 91] := am_bk_of tb_98 rfl
theorem bk_98_80 : am_bk 1617060 80 = some [.aload 0, .getstatic 748, .aload 0, .getstatic 745, .iload 1, .iaload, .iaload, .goto_w 91] := am_bk_of tb_98 rfl
theorem bk_98_91 : am_bk 1617060 91 = some [.istore 3, .aload 0, .getstatic 746, .iload 1, .iaload, .ifCond .ge 105, .iconst (-1), .goto 116] := am_bk_of tb_98 rfl
theorem bk_98_105 : am_bk 1617060 105 = some [.aload 0, .getstatic 748, .aload 0, .getstatic 746, .iload 1, .iaload, .iaload, .goto_w 116] := am_bk_of tb_98 rfl
theorem bk_98_116 : am_bk 1617060 116 = some [.istore 4, .aload 0, .iload 2, .aload 0, .getstatic 744, .iload 1, .iaload, .iload 3, .iload 4, .invokevirtual 1174698, .ireturn] := am_bk_of tb_98 rfl
theorem tb_99 : am_tb[1633416 / 16384]? = some (1633416, am_m99) := rfl
theorem bk_99_0 : am_bk 1633416 0 = some [.aload 0, .iconst 9, .iload 1, .iload 2, .iload 3, .invokevirtual 1174698, .ireturn] := am_bk_of tb_99 rfl
theorem tb_100 : am_tb[1649860 / 16384]? = some (1649860, am_m100) := rfl
theorem bk_100_0 : am_bk 1649860 0 = some [.iconst 0, .istore 2, .iload 1, .istore 3, .goto_w 4] := am_bk_of tb_100 rfl
theorem bk_100_4 : am_bk 1649860 4 = some [.aload 0, .getstatic 722, .iload 3, .iaload, .iconst 9, .if_icmp .ne 25, .aload 0, .getstatic 727, .iload 3, .iaload, .iconst 1, .if_icmp .le 87, .goto_w 25] := am_bk_of tb_100 rfl
theorem bk_100_25 : am_bk 1649860 25 = some [.aload 0, .getstatic 734, .iload 2, .iload 3, .iastore, .aload 0, .getstatic 735, .iload 2, .aload 0, .aload 0, .getstatic 724, .iload 3, .iaload, .invokevirtual 1125444, .ifCond .ne 54, .iconst 1, .goto 55] := am_bk_of tb_100 rfl
theorem bk_100_54 : am_bk 1649860 54 = some [.iconst 0, .goto_w 55] := am_bk_of tb_100 rfl
theorem bk_100_55 : am_bk 1649860 55 = some [.bastore, .aload 0, .getstatic 735, .iload 2, .baload, .ifCond .eq 74, .aload 0, .getstatic 725, .iload 3, .iaload, .goto 80] := am_bk_of tb_100 rfl
theorem bk_100_74 : am_bk 1649860 74 = some [.aload 0, .getstatic 724, .iload 3, .iaload, .goto_w 80] := am_bk_of tb_100 rfl
theorem bk_100_80 : am_bk 1649860 80 = some [.istore 3, .iinc 2 1, .goto 4] := am_bk_of tb_100 rfl
theorem bk_100_87 : am_bk 1649860 87 = some [.aload 0, .aload 0, .getstatic 723, .iload 3, .iaload, .aload 0, .getstatic 724, .iload 3, .iaload, .aload 0, .getstatic 725, .iload 3, .iaload, .invokevirtual 1666184, .istore 4, .goto_w 111] := am_bk_of tb_100 rfl
theorem bk_100_111 : am_bk 1649860 111 = some [.iload 2, .ifCond .le 197, .iinc 2 (-1), .aload 0, .getstatic 734, .iload 2, .iaload, .istore 5, .aload 0, .getstatic 735, .iload 2, .baload, .ifCond .eq 165, .aload 0, .aload 0, .getstatic 722, .iload 5, .iaload, .aload 0, .getstatic 723, .iload 5, .iaload, .aload 0, .getstatic 724, .iload 5, .iaload, .iload 4, .invokevirtual 1174698, .goto 192] := am_bk_of tb_100 rfl
theorem bk_100_165 : am_bk 1649860 165 = some [.aload 0, .aload 0, .getstatic 722, .iload 5, .iaload, .aload 0, .getstatic 723, .iload 5, .iaload, .iload 4, .aload 0, .getstatic 725, .iload 5, .iaload, .invokevirtual 1174698, .goto_w 192] := am_bk_of tb_100 rfl
theorem bk_100_192 : am_bk 1649860 192 = some [.istore 4, .goto 111] := am_bk_of tb_100 rfl
theorem bk_100_197 : am_bk 1649860 197 = some [.iload 4, .ireturn] := am_bk_of tb_100 rfl
theorem tb_101 : am_tb[1666184 / 16384]? = some (1666184, am_m101) := rfl
theorem bk_101_0 : am_bk 1666184 0 = some [.aload 0, .getstatic 722, .iload 2, .iaload, .ifCond .ne 11, .iload 3, .ireturn] := am_bk_of tb_101 rfl
theorem bk_101_11 : am_bk 1666184 11 = some [.aload 0, .getstatic 722, .iload 3, .iaload, .ifCond .ne 22, .iload 2, .ireturn] := am_bk_of tb_101 rfl
theorem bk_101_22 : am_bk 1666184 22 = some [.aload 0, .getstatic 723, .iload 2, .iaload, .iload 1, .if_icmp .eq 41, .aload 0, .iload 1, .iload 2, .iload 3, .iconst 1, .invokevirtual 1682826, .ireturn] := am_bk_of tb_101 rfl
theorem bk_101_41 : am_bk 1666184 41 = some [.aload 0, .getstatic 723, .iload 3, .iaload, .aload 0, .iload 1, .invokevirtual 666692, .if_icmp .eq 66, .aload 0, .iload 1, .iload 2, .iload 3, .iconst 0, .invokevirtual 1682826, .goto 73] := am_bk_of tb_101 rfl
theorem bk_101_66 : am_bk 1666184 66 = some [.aload 0, .iload 1, .iload 2, .iload 3, .invokevirtual 1699112, .goto_w 73] := am_bk_of tb_101 rfl
theorem bk_101_73 : am_bk 1666184 73 = some [.ireturn] := am_bk_of tb_101 rfl
theorem tb_102 : am_tb[1682826 / 16384]? = some (1682826, am_m102) := rfl
theorem bk_102_0 : am_bk 1682826 0 = some [.iload 4, .ifCond .eq 9, .iload 2, .goto 10] := am_bk_of tb_102 rfl
theorem bk_102_9 : am_bk 1682826 9 = some [.iload 3, .goto_w 10] := am_bk_of tb_102 rfl
theorem bk_102_10 : am_bk 1682826 10 = some [.istore 5, .iload 4, .ifCond .eq 21, .iload 1, .goto 26] := am_bk_of tb_102 rfl
theorem bk_102_21 : am_bk 1682826 21 = some [.aload 0, .iload 1, .invokevirtual 666692, .goto_w 26] := am_bk_of tb_102 rfl
theorem bk_102_26 : am_bk 1682826 26 = some [.istore 6, .aload 0, .getstatic 724, .iload 5, .iaload, .istore 7, .aload 0, .getstatic 725, .iload 5, .iaload, .istore 8, .aload 0, .getstatic 723, .iload 5, .iaload, .istore 9, .aload 0, .getstatic 722, .iload 5, .iaload, .iconst 2, .if_icmp .ne 96, .aload 0, .iload 2, .invokevirtual 994404, .aload 0, .iload 1, .invokevirtual 961668, .aload 0, .iload 3, .aload 0, .iload 1, .invokevirtual 666692, .invokevirtual 1010886, .aload 0, .iconst 2, .iconst 19, .iconst (-1), .iconst (-1), .invokevirtual 1158346, .ireturn] := am_bk_of tb_102 rfl
theorem bk_102_96 : am_bk 1682826 96 = some [.aload 0, .getstatic 722, .iload 5, .iaload, .iconst 8, .if_icmp .ne 172, .aload 0, .iload 7, .invokevirtual 994404, .aload 0, .aload 0, .iload 9, .invokevirtual 683108, .invokevirtual 961668, .aload 0, .iload 6, .invokevirtual 945252, .ifCond .ge 172, .iload 4, .ifCond .eq 149, .aload 0, .iload 1, .iload 8, .iload 3, .invokevirtual 1633416, .goto 157] := am_bk_of tb_102 rfl
theorem bk_102_149 : am_bk 1682826 149 = some [.aload 0, .iload 1, .iload 2, .iload 8, .invokevirtual 1633416, .goto_w 157] := am_bk_of tb_102 rfl
theorem bk_102_157 : am_bk 1682826 157 = some [.istore 10, .aload 0, .iconst 8, .iload 9, .iload 7, .iload 10, .invokevirtual 1174698, .ireturn] := am_bk_of tb_102 rfl
theorem bk_102_172 : am_bk 1682826 172 = some [.iload 4, .ifCond .eq 188, .aload 0, .iload 1, .iload 7, .iload 3, .invokevirtual 1633416, .goto 196] := am_bk_of tb_102 rfl
theorem bk_102_188 : am_bk 1682826 188 = some [.aload 0, .iload 1, .iload 2, .iload 7, .invokevirtual 1633416, .goto_w 196] := am_bk_of tb_102 rfl
theorem bk_102_196 : am_bk 1682826 196 = some [.istore 10, .aload 0, .getstatic 722, .iload 5, .iaload, .iconst 5, .if_icmp .eq 227, .aload 0, .aload 0, .getstatic 722, .iload 5, .iaload, .iload 9, .iload 10, .iload 8, .invokevirtual 1174698, .ireturn] := am_bk_of tb_102 rfl
theorem bk_102_227 : am_bk 1682826 227 = some [.iload 4, .ifCond .eq 243, .aload 0, .iload 1, .iload 8, .iload 3, .invokevirtual 1633416, .goto 251] := am_bk_of tb_102 rfl
theorem bk_102_243 : am_bk 1682826 243 = some [.aload 0, .iload 1, .iload 2, .iload 8, .invokevirtual 1633416, .goto_w 251] := am_bk_of tb_102 rfl
theorem bk_102_251 : am_bk 1682826 251 = some [.istore 11, .aload 0, .iconst 5, .iload 9, .iload 10, .iload 11, .invokevirtual 1174698, .ireturn] := am_bk_of tb_102 rfl
theorem tb_103 : am_tb[1699112 / 16384]? = some (1699112, am_m103) := rfl
theorem bk_103_0 : am_bk 1699112 0 = some [.iload 1, .iconst 16, .if_icmp .eq 12, .iload 1, .iconst 17, .if_icmp .ne 38, .goto_w 12] := am_bk_of tb_103 rfl
theorem bk_103_12 : am_bk 1699112 12 = some [.aload 0, .getstatic 722, .iload 2, .iaload, .iconst 3, .if_icmp .ne 31, .aload 0, .getstatic 724, .iload 2, .iaload, .goto 37] := am_bk_of tb_103 rfl
theorem bk_103_31 : am_bk 1699112 31 = some [.aload 0, .getstatic 724, .iload 3, .iaload, .goto_w 37] := am_bk_of tb_103 rfl
theorem bk_103_37 : am_bk 1699112 37 = some [.ireturn] := am_bk_of tb_103 rfl
theorem bk_103_38 : am_bk 1699112 38 = some [.iload 1, .iconst 2, .irem, .ifCond .ne 48, .iconst 1, .goto 49] := am_bk_of tb_103 rfl
theorem bk_103_48 : am_bk 1699112 48 = some [.iconst 0, .goto_w 49] := am_bk_of tb_103 rfl
theorem bk_103_49 : am_bk 1699112 49 = some [.istore 4, .iload 4, .ifCond .eq 60, .iload 2, .goto 61] := am_bk_of tb_103 rfl
theorem bk_103_60 : am_bk 1699112 60 = some [.iload 3, .goto_w 61] := am_bk_of tb_103 rfl
theorem bk_103_61 : am_bk 1699112 61 = some [.istore 5, .iload 4, .ifCond .eq 72, .iload 3, .goto 73] := am_bk_of tb_103 rfl
theorem bk_103_72 : am_bk 1699112 72 = some [.iload 2, .goto_w 73] := am_bk_of tb_103 rfl
theorem bk_103_73 : am_bk 1699112 73 = some [.istore 6, .aload 0, .getstatic 723, .iload 5, .iaload, .istore 7, .aload 0, .getstatic 722, .iload 5, .iaload, .iconst 8, .if_icmp .ne 142, .aload 0, .aload 0, .iload 7, .invokevirtual 699492, .aload 0, .getstatic 725, .iload 5, .iaload, .aload 0, .getstatic 724, .iload 6, .iaload, .invokevirtual 1633416, .istore 8, .aload 0, .aload 0, .iload 7, .invokevirtual 683108, .aload 0, .getstatic 724, .iload 5, .iaload, .iload 8, .invokevirtual 1633416, .ireturn] := am_bk_of tb_103 rfl
theorem bk_103_142 : am_bk 1699112 142 = some [.aload 0, .getstatic 722, .iload 5, .iaload, .iconst 6, .if_icmp .ne 181, .aload 0, .aload 0, .iload 7, .invokevirtual 683108, .aload 0, .getstatic 724, .iload 5, .iaload, .aload 0, .getstatic 724, .iload 6, .iaload, .invokevirtual 1633416, .goto 205] := am_bk_of tb_103 rfl
theorem bk_103_181 : am_bk 1699112 181 = some [.aload 0, .aload 0, .iload 7, .invokevirtual 699492, .aload 0, .getstatic 724, .iload 5, .iaload, .aload 0, .getstatic 725, .iload 6, .iaload, .invokevirtual 1633416, .goto_w 205] := am_bk_of tb_103 rfl
theorem bk_103_205 : am_bk 1699112 205 = some [.ireturn] := am_bk_of tb_103 rfl
theorem tb_104 : am_tb[1715300 / 16384]? = some (1715300, am_m104) := rfl
theorem bk_104_0 : am_bk 1715300 0 = some [.aload 0, .iload 1, .invokestatic 1179682, .iload 1, .invokestatic 1179682, .ifCond .ne 25, .aload 0, .getstatic 733, .iload 1, .iaload, .ifCond .ge 25, .iconst 1, .goto 26] := am_bk_of tb_104 rfl
theorem bk_104_25 : am_bk 1715300 25 = some [.iconst 0, .goto_w 26] := am_bk_of tb_104 rfl
theorem bk_104_26 : am_bk 1715300 26 = some [.invokevirtual 601190, .ifCond .ne 34, .iconst 0, .ireturn] := am_bk_of tb_104 rfl
theorem bk_104_34 : am_bk 1715300 34 = some [.aload 0, .getstatic 727, .aload 0, .getstatic 733, .iload 1, .iaload, .iaload, .ifCond .ne 50, .iconst (-1), .ireturn] := am_bk_of tb_104 rfl
theorem bk_104_50 : am_bk 1715300 50 = some [.aload 0, .invokevirtual 1141954, .aload 0, .aload 0, .getstatic 733, .iload 1, .iaload, .invokevirtual 1649860, .istore 2, .aload 0, .getstatic 726, .iload 2, .iaload, .iconst 100, .if_icmp .le 83, .aload 0, .iconst 3, .multianewarray 11 0, .iconst 0, .ireturn] := am_bk_of tb_104 rfl
theorem bk_104_83 : am_bk 1715300 83 = some [.aload 0, .getstatic 733, .iload 1, .iload 2, .iastore, .aload 0, .getstatic 727, .iload 2, .iaload, .ireturn] := am_bk_of tb_104 rfl
theorem tb_105 : am_tb[1731684 / 16384]? = some (1731684, am_m105) := rfl
theorem bk_105_0 : am_bk 1731684 0 = some [.aload 0, .iload 1, .invokestatic 1179682, .iload 1, .invokestatic 1179682, .ifCond .ne 25, .aload 0, .getstatic 733, .iload 1, .iaload, .ifCond .ge 25, .iconst 1, .goto 26] := am_bk_of tb_105 rfl
theorem bk_105_25 : am_bk 1731684 25 = some [.iconst 0, .goto_w 26] := am_bk_of tb_105 rfl
theorem bk_105_26 : am_bk 1731684 26 = some [.invokevirtual 601190, .ifCond .ne 34, .iconst 0, .ireturn] := am_bk_of tb_105 rfl
theorem bk_105_34 : am_bk 1731684 34 = some [.iconst 0, .istore 2, .aload 0, .getstatic 733, .iconst 4, .aload 0, .getstatic 733, .iload 1, .iaload, .iastore, .goto_w 48] := am_bk_of tb_105 rfl
theorem bk_105_48 : am_bk 1731684 48 = some [.aload 0, .invokeinterface 11 0, .ifCond .ne 127, .aload 0, .getstatic 727, .aload 0, .getstatic 733, .iconst 4, .iaload, .iaload, .ifCond .le 127, .aload 0, .invokevirtual 1141954, .aload 0, .getstatic 733, .iconst 4, .aload 0, .aload 0, .getstatic 733, .iconst 4, .iaload, .invokevirtual 1649860, .iastore, .aload 0, .aload 0, .getstatic 726, .aload 0, .getstatic 733, .iconst 4, .iaload, .iaload, .iconst 100, .if_icmp .gt 113, .iload 2, .iconst 300, .if_icmp .ne 117, .goto_w 113] := am_bk_of tb_105 rfl
theorem bk_105_113 : am_bk 1731684 113 = some [.iconst 3, .goto 118] := am_bk_of tb_105 rfl
theorem bk_105_117 : am_bk 1731684 117 = some [.iconst 0, .goto_w 118] := am_bk_of tb_105 rfl
theorem bk_105_118 : am_bk 1731684 118 = some [.multianewarray 11 0, .iinc 2 1, .goto 48] := am_bk_of tb_105 rfl
theorem bk_105_127 : am_bk 1731684 127 = some [.aload 0, .getstatic 733, .iload 1, .aload 0, .invokeinterface 11 0, .ifCond .ne 148, .aload 0, .getstatic 733, .iconst 4, .iaload, .goto 154] := am_bk_of tb_105 rfl
theorem bk_105_148 : am_bk 1731684 148 = some [.aload 0, .getstatic 733, .iload 1, .iaload, .goto_w 154] := am_bk_of tb_105 rfl
theorem bk_105_154 : am_bk 1731684 154 = some [.iastore, .aload 0, .getstatic 733, .iconst 4, .iconst (-1), .iastore, .aload 0, .invokeinterface 11 0, .ifCond .ne 173, .iload 2, .goto 174] := am_bk_of tb_105 rfl
theorem bk_105_173 : am_bk 1731684 173 = some [.iconst 0, .goto_w 174] := am_bk_of tb_105 rfl
theorem bk_105_174 : am_bk 1731684 174 = some [.ireturn] := am_bk_of tb_105 rfl
theorem tb_106 : am_tb[1748036 / 16384]? = some (1748036, am_m106) := rfl
theorem bk_106_0 : am_bk 1748036 0 = some [.aload 0, .iload 1, .invokestatic 1179682, .iconst 0, .invokevirtual 601190, .ifCond .eq 25, .aload 0, .aload 0, .getstatic 733, .iload 1, .iaload, .invokevirtual 1109060, .goto 26] := am_bk_of tb_106 rfl
theorem bk_106_25 : am_bk 1748036 25 = some [.iconst 0, .goto_w 26] := am_bk_of tb_106 rfl
theorem bk_106_26 : am_bk 1748036 26 = some [.ireturn] := am_bk_of tb_106 rfl
theorem tb_107 : am_tb[1764420 / 16384]? = some (1764420, am_m107) := rfl
theorem bk_107_0 : am_bk 1764420 0 = some [.aload 0, .iload 1, .invokestatic 1179682, .iconst 0, .invokevirtual 601190, .ifCond .eq 25, .aload 0, .aload 0, .getstatic 733, .iload 1, .iaload, .invokevirtual 1125444, .goto 26] := am_bk_of tb_107 rfl
theorem bk_107_25 : am_bk 1764420 25 = some [.iconst 0, .goto_w 26] := am_bk_of tb_107 rfl
theorem bk_107_26 : am_bk 1764420 26 = some [.ireturn] := am_bk_of tb_107 rfl
theorem tb_108 : am_tb[1780902 / 16384]? = some (1780902, am_m108) := rfl
theorem bk_108_0 : am_bk 1780902 0 = some [.iload 1, .istore 3, .iload 2, .istore 4, .goto_w 5] := am_bk_of tb_108 rfl
theorem bk_108_5 : am_bk 1780902 5 = some [.iload 4, .ifCond .le 65, .iinc 4 (-1), .iload 4, .aload 0, .getstatic 726, .aload 0, .getstatic 724, .iload 3, .iaload, .iaload, .if_icmp .ge 39, .aload 0, .getstatic 724, .iload 3, .iaload, .istore 3, .goto 5] := am_bk_of tb_108 rfl
theorem bk_108_39 : am_bk 1780902 39 = some [.iload 4, .aload 0, .getstatic 726, .aload 0, .getstatic 724, .iload 3, .iaload, .iaload, .isub, .istore 4, .aload 0, .getstatic 725, .iload 3, .iaload, .istore 3, .goto 5] := am_bk_of tb_108 rfl
theorem bk_108_65 : am_bk 1780902 65 = some [.iload 3, .ireturn] := am_bk_of tb_108 rfl
theorem tb_109 : am_tb[1797288 / 16384]? = some (1797288, am_m109) := rfl
theorem bk_109_0 : am_bk 1797288 0 = some [.aload 0, .iload 1, .invokestatic 1179682, .ifCond .ne 17, .iload 3, .ifCond .lt 17, .iload 3, .iconst 3, .if_icmp .le 21, .goto_w 17] := am_bk_of tb_109 rfl
theorem bk_109_17 : am_bk 1797288 17 = some [.iconst 1, .goto 22] := am_bk_of tb_109 rfl
theorem bk_109_21 : am_bk 1797288 21 = some [.iconst 0, .goto_w 22] := am_bk_of tb_109 rfl
theorem bk_109_22 : am_bk 1797288 22 = some [.iload 1, .invokestatic 1179682, .ifCond .ne 51, .iload 2, .ifCond .lt 47, .iload 2, .aload 0, .aload 0, .getstatic 733, .iload 1, .iaload, .invokevirtual 1109060, .if_icmp .lt 51, .goto_w 47] := am_bk_of tb_109 rfl
theorem bk_109_47 : am_bk 1797288 47 = some [.iconst 1, .goto 52] := am_bk_of tb_109 rfl
theorem bk_109_51 : am_bk 1797288 51 = some [.iconst 0, .goto_w 52] := am_bk_of tb_109 rfl
theorem bk_109_52 : am_bk 1797288 52 = some [.invokevirtual 601190, .ifCond .ne 60, .iconst 0, .ireturn] := am_bk_of tb_109 rfl
theorem bk_109_60 : am_bk 1797288 60 = some [.aload 0, .aload 0, .getstatic 733, .iload 1, .iaload, .iload 2, .invokevirtual 1780902, .istore 4, .iload 3, .ifCond .ne 87, .aload 0, .getstatic 722, .iload 4, .iaload, .goto 124] := am_bk_of tb_109 rfl
theorem bk_109_87 : am_bk 1797288 87 = some [.iload 3, .iconst 1, .if_icmp .ne 102, .aload 0, .getstatic 723, .iload 4, .iaload, .goto 124] := am_bk_of tb_109 rfl
theorem bk_109_102 : am_bk 1797288 102 = some [.iload 3, .iconst 2, .if_icmp .ne 117, .aload 0, .getstatic 728, .iload 4, .iaload, .goto 124] := am_bk_of tb_109 rfl
theorem bk_109_117 : am_bk 1797288 117 = some [.aload 0, .getstatic 726, .iload 4, .iaload, .goto_w 124] := am_bk_of tb_109 rfl
theorem bk_109_124 : am_bk 1797288 124 = some [.ireturn] := am_bk_of tb_109 rfl
theorem tb_110 : am_tb[1813672 / 16384]? = some (1813672, am_m110) := rfl
theorem bk_110_0 : am_bk 1813672 0 = some [.aload 0, .iload 1, .invokestatic 1179682, .iload 1, .invokestatic 1179682, .ifCond .ne 34, .iload 2, .ifCond .lt 30, .iload 2, .aload 0, .aload 0, .getstatic 733, .iload 1, .iaload, .invokevirtual 1109060, .if_icmp .lt 34, .goto_w 30] := am_bk_of tb_110 rfl
theorem bk_110_30 : am_bk 1813672 30 = some [.iconst 1, .goto 35] := am_bk_of tb_110 rfl
theorem bk_110_34 : am_bk 1813672 34 = some [.iconst 0, .goto_w 35] := am_bk_of tb_110 rfl
theorem bk_110_35 : am_bk 1813672 35 = some [.invokevirtual 601190, .ifCond .ne 43, .iconst 0, .ireturn] := am_bk_of tb_110 rfl
theorem bk_110_43 : am_bk 1813672 43 = some [.aload 0, .aload 0, .getstatic 733, .iload 1, .iaload, .iload 2, .invokevirtual 1780902, .istore 4, .iload 3, .ifCond .lt 86, .iload 3, .aload 0, .getstatic 728, .iload 4, .iaload, .if_icmp .ge 86, .aload 0, .getstatic 729, .iconst 24, .iload 4, .imul, .iload 3, .iadd, .iaload, .goto 87] := am_bk_of tb_110 rfl
theorem bk_110_86 : am_bk 1813672 86 = some [.iconst (-1), .goto_w 87] := am_bk_of tb_110 rfl
theorem bk_110_87 : am_bk 1813672 87 = some [.ireturn] := am_bk_of tb_110 rfl
theorem tb_111 : am_tb[1826916 / 16384]? = some (1826916, am_m111) := rfl
theorem bk_111_0 : am_bk 1826916 0 = some [.aload 0, .getstatic 513, .invokevirtual 2382882, .aload 0, .getstatic 513, .iconst 0, .iconst (-1), .invokevirtual 2415750, .istore 2, .aload 0, .getstatic 513, .iload 2, .invokevirtual 2268228, .getstatic 384, .aload 1, .invokevirtual 2806852, .aload 0, .iload 2, .iconst 0, .invokevirtual 1843366, .freturn] := am_bk_of tb_111 rfl
theorem tb_112 : am_tb[1843366 / 16384]? = some (1843366, am_m112) := rfl
theorem bk_112_0 : am_bk 1843366 0 = some [.iload 2, .iconst 20, .if_icmp .gt 16, .aload 0, .getstatic 513, .invokevirtual 2251810, .ifCond .eq 18, .goto_w 16] := am_bk_of tb_112 rfl
theorem bk_112_16 : am_bk 1843366 16 = some [.iconst 0, .freturn] := am_bk_of tb_112 rfl
theorem bk_112_18 : am_bk 1843366 18 = some [.aload 0, .getstatic 513, .iload 1, .invokevirtual 2268228, .getstatic 384, .iconst 17, .invokevirtual 2790500, .istore 3, .iload 3, .iconst (-1), .if_icmp .eq 50, .aload 0, .iload 1, .iload 3, .iload 2, .invokevirtual 1859784, .goto 72] := am_bk_of tb_112 rfl
theorem bk_112_50 : am_bk 1843366 50 = some [.aload 0, .iload 1, .invokevirtual 1876100, .ifCond .ne 67, .aload 0, .iload 1, .iload 2, .invokevirtual 1892582, .ifCond .eq 71, .goto_w 67] := am_bk_of tb_112 rfl
theorem bk_112_67 : am_bk 1843366 67 = some [.iconst 1, .goto 72] := am_bk_of tb_112 rfl
theorem bk_112_71 : am_bk 1843366 71 = some [.iconst 0, .goto_w 72] := am_bk_of tb_112 rfl
theorem bk_112_72 : am_bk 1843366 72 = some [.istore 4, .iload 4, .ifCond .eq 87, .aload 0, .getstatic 513, .iload 1, .invokevirtual 2432068, .goto_w 87] := am_bk_of tb_112 rfl
theorem bk_112_87 : am_bk 1843366 87 = some [.iload 4, .freturn] := am_bk_of tb_112 rfl
theorem tb_113 : am_tb[1859784 / 16384]? = some (1859784, am_m113) := rfl
theorem bk_113_0 : am_bk 1859784 0 = some [.iload 2, .iconst 19, .if_icmp .ne 15, .aload 0, .iload 1, .iconst 2, .iload 2, .invokevirtual 1941640, .iconst 1, .freturn] := am_bk_of tb_113 rfl
theorem bk_113_15 : am_bk 1859784 15 = some [.iload 2, .iconst 17, .if_icmp .ne 37, .aload 0, .iload 1, .iconst 3, .iload 2, .invokevirtual 1941640, .aload 0, .iload 1, .iconst (-1), .iconst (-1), .iload 3, .invokevirtual 1958122, .freturn] := am_bk_of tb_113 rfl
theorem bk_113_37 : am_bk 1859784 37 = some [.aload 0, .getstatic 512, .iload 2, .invokevirtual 2082884, .istore 4, .aload 0, .getstatic 512, .iload 2, .invokevirtual 2099268, .istore 5, .aload 0, .getstatic 512, .iload 2, .invokevirtual 2066500, .iconst 1, .if_icmp .ne 87, .aload 0, .iload 1, .iconst 4, .iload 2, .invokevirtual 1941640, .aload 0, .iload 1, .iload 4, .iload 5, .iload 3, .invokevirtual 1958122, .freturn] := am_bk_of tb_113 rfl
theorem bk_113_87 : am_bk 1859784 87 = some [.aload 0, .iload 1, .iconst 5, .iload 2, .invokevirtual 1941640, .aload 0, .iload 1, .iload 4, .iconst (-1), .iload 3, .invokevirtual 1958122, .ifCond .eq 122, .aload 0, .iload 1, .iload 5, .iconst (-1), .iload 3, .invokevirtual 1958122, .ifCond .eq 122, .iconst 1, .goto 123] := am_bk_of tb_113 rfl
theorem bk_113_122 : am_bk 1859784 122 = some [.iconst 0, .goto_w 123] := am_bk_of tb_113 rfl
theorem bk_113_123 : am_bk 1859784 123 = some [.freturn] := am_bk_of tb_113 rfl
theorem tb_114 : am_tb[1876100 / 16384]? = some (1876100, am_m114) := rfl
theorem bk_114_0 : am_bk 1876100 0 = some [.aload 0, .getstatic 513, .iload 1, .invokevirtual 2268228, .getstatic 384, .astore 2, .aload 2, .iconst 0, .invokevirtual 2675780, .istore 3, .aload 2, .invokevirtual 2659362, .iconst 1, .if_icmp .ne 41, .iload 3, .iconst 16, .if_icmp .ne 41, .aload 0, .iload 1, .iconst 1, .iload 3, .invokevirtual 1941640, .iconst 1, .freturn] := am_bk_of tb_114 rfl
theorem bk_114_41 : am_bk 1876100 41 = some [.aload 2, .invokevirtual 2659362, .iconst 2, .if_icmp .ne 81, .iload 3, .iconst 16, .if_icmp .ge 81, .iload 3, .iconst 1, .iand, .ifCond .ne 81, .aload 2, .iconst 1, .invokevirtual 2675780, .iload 3, .iconst 1, .iadd, .if_icmp .ne 81, .aload 0, .iload 1, .iconst 0, .iload 3, .invokevirtual 1941640, .iconst 1, .freturn] := am_bk_of tb_114 rfl
theorem bk_114_81 : am_bk 1876100 81 = some [.iconst 0, .freturn] := am_bk_of tb_114 rfl
theorem tb_115 : am_tb[1892582 / 16384]? = some (1892582, am_m115) := rfl
theorem bk_115_0 : am_bk 1892582 0 = some [.aload 0, .getstatic 513, .iload 1, .invokevirtual 2268228, .getstatic 384, .astore 3, .aload 0, .getstatic 514, .aload 3, .invokevirtual 2172036, .ifCond .eq 25, .iconst 0, .freturn] := am_bk_of tb_115 rfl
theorem bk_115_25 : am_bk 1892582 25 = some [.iconst 0, .istore 4, .goto_w 28] := am_bk_of tb_115 rfl
theorem bk_115_28 : am_bk 1892582 28 = some [.iload 4, .aload 3, .invokevirtual 2659362, .if_icmp .ge 114, .aload 3, .iload 4, .invokevirtual 2675780, .istore 5, .iload 5, .aload 3, .iload 4, .iconst 1, .isub, .invokevirtual 2675780, .if_icmp .ne 62, .iconst (-1), .goto 71] := am_bk_of tb_115 rfl
theorem bk_115_62 : am_bk 1892582 62 = some [.aload 0, .getstatic 512, .iload 5, .invokevirtual 2066500, .goto_w 71] := am_bk_of tb_115 rfl
theorem bk_115_71 : am_bk 1892582 71 = some [.istore 6, .iload 6, .iconst 2, .if_icmp .ne 90, .aload 0, .iload 1, .iload 5, .iload 2, .invokevirtual 1908872, .ifCond .ne 106, .goto_w 90] := am_bk_of tb_115 rfl
theorem bk_115_90 : am_bk 1892582 90 = some [.iload 6, .ifCond .ne 108, .aload 0, .iload 1, .iload 5, .iload 2, .invokevirtual 1925320, .ifCond .eq 108, .goto_w 106] := am_bk_of tb_115 rfl
theorem bk_115_106 : am_bk 1892582 106 = some [.iconst 1, .freturn] := am_bk_of tb_115 rfl
theorem bk_115_108 : am_bk 1892582 108 = some [.iinc 4 1, .goto 28] := am_bk_of tb_115 rfl
theorem bk_115_114 : am_bk 1892582 114 = some [.aload 0, .getstatic 514, .aload 3, .invokevirtual 2188420, .iconst 0, .freturn] := am_bk_of tb_115 rfl
theorem tb_116 : am_tb[1908872 / 16384]? = some (1908872, am_m116) := rfl
theorem bk_116_0 : am_bk 1908872 0 = some [.aload 0, .iload 1, .iconst 6, .iload 2, .invokevirtual 1941640, .aload 0, .iload 1, .aload 0, .getstatic 512, .iload 2, .invokevirtual 2082884, .iconst (-1), .iload 3, .invokevirtual 1958122, .ifCond .eq 28, .iconst 1, .freturn] := am_bk_of tb_116 rfl
theorem bk_116_28 : am_bk 1908872 28 = some [.aload 0, .iload 1, .iconst 7, .iload 2, .invokevirtual 1941640, .aload 0, .iload 1, .aload 0, .getstatic 512, .iload 2, .invokevirtual 2099268, .iconst (-1), .iload 3, .invokevirtual 1958122, .freturn] := am_bk_of tb_116 rfl
theorem tb_117 : am_tb[1925320 / 16384]? = some (1925320, am_m117) := rfl
theorem bk_117_0 : am_bk 1925320 0 = some [.iconst 1, .aload 0, .getstatic 513, .iload 1, .invokevirtual 2268228, .getstatic 384, .invokevirtual 2659362, .iconst 1, .isub, .ishl, .istore 4, .iconst 0, .istore 5, .goto_w 23] := am_bk_of tb_117 rfl
theorem bk_117_23 : am_bk 1925320 23 = some [.iload 5, .iload 4, .if_icmp .ge 86, .aload 0, .iload 1, .iconst 8, .iload 2, .invokevirtual 1941640, .aload 0, .iload 1, .aload 0, .getstatic 512, .iload 2, .invokevirtual 2082884, .iload 5, .iload 3, .invokevirtual 1974506, .ifCond .eq 80, .aload 0, .iload 1, .aload 0, .getstatic 512, .iload 2, .invokevirtual 2099268, .iload 5, .iconst (-1), .ixor, .iload 3, .invokevirtual 1974506, .ifCond .eq 80, .iconst 1, .freturn] := am_bk_of tb_117 rfl
theorem bk_117_80 : am_bk 1925320 80 = some [.iinc 5 1, .goto 23] := am_bk_of tb_117 rfl
theorem bk_117_86 : am_bk 1925320 86 = some [.iconst 0, .freturn] := am_bk_of tb_117 rfl
theorem tb_118 : am_tb[1941640 / 16384]? = some (1941640, am_m118) := rfl
theorem bk_118_0 : am_bk 1941640 0 = some [.aload 0, .getstatic 513, .iload 1, .iconst 1, .iadd, .invokevirtual 2399300, .aload 0, .getstatic 513, .iload 1, .invokevirtual 2268228, .iload 2, .multianewarray 6 1, .aload 0, .getstatic 513, .iload 1, .invokevirtual 2268228, .iload 3, .multianewarray 6 2, .return_] := am_bk_of tb_118 rfl
theorem tb_119 : am_tb[1958122 / 16384]? = some (1958122, am_m119) := rfl
theorem bk_119_0 : am_bk 1958122 0 = some [.aload 0, .getstatic 513, .iconst 0, .iconst (-1), .invokevirtual 2415750, .istore 5, .aload 0, .getstatic 513, .iload 5, .invokevirtual 2268228, .getstatic 384, .astore 6, .aload 6, .aload 0, .getstatic 513, .iload 1, .invokevirtual 2268228, .getstatic 384, .aload 0, .getstatic 513, .iload 1, .invokevirtual 2268228, .invokeinterface 6 2, .invokevirtual 2823334, .pop, .iload 2, .iconst (-1), .if_icmp .eq 64, .aload 6, .iload 2, .invokevirtual 2708580, .goto_w 64] := am_bk_of tb_119 rfl
theorem bk_119_64 : am_bk 1958122 64 = some [.iload 3, .iconst (-1), .if_icmp .eq 75, .aload 6, .iload 3, .invokevirtual 2708580, .goto_w 75] := am_bk_of tb_119 rfl
theorem bk_119_75 : am_bk 1958122 75 = some [.aload 0, .iload 5, .iload 4, .iconst 1, .iadd, .invokevirtual 1843366, .freturn] := am_bk_of tb_119 rfl
theorem tb_120 : am_tb[1974506 / 16384]? = some (1974506, am_m120) := rfl
theorem bk_120_0 : am_bk 1974506 0 = some [.aload 0, .getstatic 513, .iconst 0, .iconst (-1), .invokevirtual 2415750, .istore 5, .aload 0, .getstatic 513, .iload 5, .invokevirtual 2268228, .getstatic 384, .astore 6, .aload 6, .aload 0, .getstatic 513, .iload 1, .invokevirtual 2268228, .getstatic 384, .aload 0, .getstatic 513, .iload 1, .invokevirtual 2268228, .invokeinterface 6 2, .invokevirtual 2823334, .pop, .aload 6, .iload 3, .invokevirtual 2757764, .aload 6, .iload 2, .invokevirtual 2708580, .aload 0, .iload 5, .iload 4, .iconst 1, .iadd, .invokevirtual 1843366, .freturn] := am_bk_of tb_120 rfl
theorem tb_121 : am_tb[1984546 / 16384]? = some (1984546, am_m121) := rfl
theorem bk_121_0 : am_bk 1984546 0 = some [.aload 0, .invokeinterface 2 4, .ireturn] := am_bk_of tb_121 rfl
theorem tb_122 : am_tb[2000964 / 16384]? = some (2000964, am_m122) := rfl
theorem bk_122_0 : am_bk 2000964 0 = some [.iload 1, .ifCond .lt 16, .iload 1, .aload 0, .invokeinterface 2 4, .if_icmp .ge 16, .iconst 1, .goto 17] := am_bk_of tb_122 rfl
theorem bk_122_16 : am_bk 2000964 16 = some [.iconst 0, .goto_w 17] := am_bk_of tb_122 rfl
theorem bk_122_17 : am_bk 2000964 17 = some [.freturn] := am_bk_of tb_122 rfl
theorem tb_123 : am_tb[2017348 / 16384]? = some (2017348, am_m123) := rfl
theorem bk_123_0 : am_bk 2017348 0 = some [.iload 1, .iconst 20, .if_icmp .lt 18, .iload 1, .aload 0, .invokeinterface 2 4, .if_icmp .ge 18, .iconst 1, .goto 19] := am_bk_of tb_123 rfl
theorem bk_123_18 : am_bk 2017348 18 = some [.iconst 0, .goto_w 19] := am_bk_of tb_123 rfl
theorem bk_123_19 : am_bk 2017348 19 = some [.freturn] := am_bk_of tb_123 rfl
theorem tb_124 : am_tb[2033732 / 16384]? = some (2033732, am_m124) := rfl
theorem bk_124_0 : am_bk 2033732 0 = some [.aload 0, .iload 1, .invokevirtual 2017348, .ifCond .eq 17, .aload 0, .getstatic 131, .iload 1, .iaload, .goto 18] := am_bk_of tb_124 rfl
theorem bk_124_17 : am_bk 2033732 17 = some [.iconst 1, .goto_w 18] := am_bk_of tb_124 rfl
theorem bk_124_18 : am_bk 2033732 18 = some [.ireturn] := am_bk_of tb_124 rfl
theorem tb_125 : am_tb[2050180 / 16384]? = some (2050180, am_m125) := rfl
theorem bk_125_0 : am_bk 2050180 0 = some [.iconst 0, .istore 2, .iconst 0, .istore 3, .goto_w 4] := am_bk_of tb_125 rfl
theorem bk_125_4 : am_bk 2050180 4 = some [.iload 3, .aload 1, .invokevirtual 2659362, .if_icmp .ge 30, .iload 2, .aload 0, .aload 1, .iload 3, .invokevirtual 2675780, .invokevirtual 2033732, .iadd, .istore 2, .iinc 3 1, .goto 4] := am_bk_of tb_125 rfl
theorem bk_125_30 : am_bk 2050180 30 = some [.iload 2, .ireturn] := am_bk_of tb_125 rfl
theorem tb_126 : am_tb[2066500 / 16384]? = some (2066500, am_m126) := rfl
theorem bk_126_0 : am_bk 2066500 0 = some [.aload 0, .iload 1, .invokevirtual 2017348, .ifCond .eq 17, .aload 0, .getstatic 128, .iload 1, .iaload, .goto 18] := am_bk_of tb_126 rfl
theorem bk_126_17 : am_bk 2066500 17 = some [.iconst (-1), .goto_w 18] := am_bk_of tb_126 rfl
theorem bk_126_18 : am_bk 2066500 18 = some [.ireturn] := am_bk_of tb_126 rfl
theorem tb_127 : am_tb[2082884 / 16384]? = some (2082884, am_m127) := rfl
theorem bk_127_0 : am_bk 2082884 0 = some [.aload 0, .iload 1, .invokevirtual 2017348, .ifCond .eq 17, .aload 0, .getstatic 129, .iload 1, .iaload, .goto 18] := am_bk_of tb_127 rfl
theorem bk_127_17 : am_bk 2082884 17 = some [.iconst (-1), .goto_w 18] := am_bk_of tb_127 rfl
theorem bk_127_18 : am_bk 2082884 18 = some [.ireturn] := am_bk_of tb_127 rfl
theorem tb_128 : am_tb[2099268 / 16384]? = some (2099268, am_m128) := rfl
theorem bk_128_0 : am_bk 2099268 0 = some [.aload 0, .iload 1, .invokevirtual 2017348, .ifCond .eq 17, .aload 0, .getstatic 130, .iload 1, .iaload, .goto 18] := am_bk_of tb_128 rfl
theorem bk_128_17 : am_bk 2099268 17 = some [.iconst (-1), .goto_w 18] := am_bk_of tb_128 rfl
theorem bk_128_18 : am_bk 2099268 18 = some [.ireturn] := am_bk_of tb_128 rfl
theorem tb_129 : am_tb[2115784 / 16384]? = some (2115784, am_m129) := rfl
theorem bk_129_0 : am_bk 2115784 0 = some [.iconst 20, .istore 4, .goto_w 4] := am_bk_of tb_129 rfl
theorem bk_129_4 : am_bk 2115784 4 = some [.iload 4, .aload 0, .invokeinterface 2 4, .if_icmp .ge 55, .aload 0, .getstatic 128, .iload 4, .iaload, .iload 1, .if_icmp .ne 49, .aload 0, .getstatic 129, .iload 4, .iaload, .iload 2, .if_icmp .ne 49, .aload 0, .getstatic 130, .iload 4, .iaload, .iload 3, .if_icmp .ne 49, .iload 4, .ireturn] := am_bk_of tb_129 rfl
theorem bk_129_49 : am_bk 2115784 49 = some [.iinc 4 1, .goto 4] := am_bk_of tb_129 rfl
theorem bk_129_55 : am_bk 2115784 55 = some [.aload 0, .iload 2, .invokevirtual 2033732, .aload 0, .iload 3, .invokevirtual 2033732, .iadd, .istore 4, .iload 4, .iconst 8, .if_icmp .gt 86, .aload 0, .invokeinterface 2 4, .iconst 2, .iadd, .iconst 80, .if_icmp .le 88, .goto_w 86] := am_bk_of tb_129 rfl
theorem bk_129_86 : am_bk 2115784 86 = some [.iconst (-1), .ireturn] := am_bk_of tb_129 rfl
theorem bk_129_88 : am_bk 2115784 88 = some [.aload 0, .invokeinterface 2 4, .iload 1, .iconst 1, .iand, .iadd, .istore 5, .aload 0, .iload 5, .iload 1, .iload 2, .iload 3, .iload 4, .invokevirtual 2148556, .aload 0, .iload 5, .iconst 1, .ixor, .iload 1, .iconst 1, .ixor, .iload 2, .iconst 1, .ixor, .iload 3, .iconst 1, .ixor, .iload 4, .invokevirtual 2148556, .aload 0, .dup, .invokeinterface 2 4, .iconst 2, .iadd, .multianewarray 2 4, .iload 5, .ireturn] := am_bk_of tb_129 rfl
theorem tb_130 : am_tb[2132036 / 16384]? = some (2132036, am_m130) := rfl
theorem bk_130_0 : am_bk 2132036 0 = some [.aload 0, .iconst 20, .aload 0, .invokeinterface 2 4, .iload 1, .invokedynamic 3, .invokedynamic 2, .multianewarray 2 4, .return_] := am_bk_of tb_130 rfl
theorem tb_131 : am_tb[2148556 / 16384]? = some (2148556, am_m131) := rfl
theorem bk_131_0 : am_bk 2148556 0 = some [.aload 0, .getstatic 128, .iload 1, .iload 2, .iastore, .aload 0, .getstatic 129, .iload 1, .iload 3, .iastore, .aload 0, .getstatic 130, .iload 1, .iload 4, .iastore, .aload 0, .getstatic 131, .iload 1, .iload 5, .iastore, .return_] := am_bk_of tb_131 rfl
theorem tb_132 : am_tb[2172036 / 16384]? = some (2172036, am_m132) := rfl
theorem bk_132_0 : am_bk 2172036 0 = some [.aload 1, .invokestatic 2195586, .lstore 2, .aload 0, .getstatic 576, .lload 2, .invokestatic 2211906, .laload, .lload 2, .lcmp, .ifCond .ne 23, .iconst 1, .goto 24] := am_bk_of tb_132 rfl
theorem bk_132_23 : am_bk 2172036 23 = some [.iconst 0, .goto_w 24] := am_bk_of tb_132 rfl
theorem bk_132_24 : am_bk 2172036 24 = some [.freturn] := am_bk_of tb_132 rfl
theorem tb_133 : am_tb[2188420 / 16384]? = some (2188420, am_m133) := rfl
theorem bk_133_0 : am_bk 2188420 0 = some [.aload 1, .invokestatic 2195586, .lstore 2, .aload 0, .getstatic 576, .lload 2, .invokestatic 2211906, .lload 2, .lastore, .return_] := am_bk_of tb_133 rfl
theorem tb_134 : am_tb[2195586 / 16384]? = some (2195586, am_m134) := rfl
theorem bk_134_0 : am_bk 2195586 0 = some [.jsr_w 1, .lstore 1, .iconst 0, .istore 3, .goto_w 4] := am_bk_of tb_134 rfl
theorem bk_134_4 : am_bk 2195586 4 = some [.iload 3, .aload 0, .invokevirtual 2659362, .if_icmp .ge 30, .lload 1, .iconst 7, .lshl, .aload 0, .iload 3, .invokevirtual 2675780, .i2l, .lor, .lstore 1, .iinc 3 1, .goto 4] := am_bk_of tb_134 rfl
theorem bk_134_30 : am_bk 2195586 30 = some [.lload 1, .lreturn] := am_bk_of tb_134 rfl
theorem tb_135 : am_tb[2211906 / 16384]? = some (2211906, am_m135) := rfl
theorem bk_135_0 : am_bk 2211906 0 = some [.lload 0, .jsr_w (-7046029254386353131), .lmul, .iconst 54, .lushr, .l2i, .ireturn] := am_bk_of tb_135 rfl
theorem tb_136 : am_tb[2235426 / 16384]? = some (2235426, am_m136) := rfl
theorem bk_136_0 : am_bk 2235426 0 = some [.aload 0, .invokeinterface 7 1, .ireturn] := am_bk_of tb_136 rfl
theorem tb_137 : am_tb[2251810 / 16384]? = some (2251810, am_m137) := rfl
theorem bk_137_0 : am_bk 2251810 0 = some [.aload 0, .invokeinterface 7 2, .freturn] := am_bk_of tb_137 rfl
theorem tb_138 : am_tb[2268228 / 16384]? = some (2268228, am_m138) := rfl
theorem bk_138_0 : am_bk 2268228 0 = some [.aload 0, .getstatic 448, .iload 1, .ifCond .lt 18, .iload 1, .iconst 100, .if_icmp .ge 18, .iload 1, .goto 20] := am_bk_of tb_138 rfl
theorem bk_138_18 : am_bk 2268228 18 = some [.iconst 100, .goto_w 20] := am_bk_of tb_138 rfl
theorem bk_138_20 : am_bk 2268228 20 = some [.aaload, .areturn] := am_bk_of tb_138 rfl
theorem tb_139 : am_tb[2284578 / 16384]? = some (2284578, am_m139) := rfl
theorem bk_139_0 : am_bk 2284578 0 = some [.aload 0, .iconst 0, .invokevirtual 2268228, .getstatic 384, .areturn] := am_bk_of tb_139 rfl
theorem tb_140 : am_tb[2300996 / 16384]? = some (2300996, am_m140) := rfl
theorem bk_140_0 : am_bk 2300996 0 = some [.iload 1, .iconst 1, .iadd, .ireturn] := am_bk_of tb_140 rfl
theorem tb_141 : am_tb[2317380 / 16384]? = some (2317380, am_m141) := rfl
theorem bk_141_0 : am_bk 2317380 0 = some [.iload 1, .iconst 1, .iadd, .aload 0, .iload 1, .iconst 1, .iadd, .invokevirtual 2268228, .invokeinterface 6 3, .iadd, .ireturn] := am_bk_of tb_141 rfl
theorem tb_142 : am_tb[2333764 / 16384]? = some (2333764, am_m142) := rfl
theorem bk_142_0 : am_bk 2333764 0 = some [.iload 1, .aload 0, .iload 1, .invokevirtual 2268228, .invokeinterface 6 3, .iadd, .ireturn] := am_bk_of tb_142 rfl
theorem tb_143 : am_tb[2350178 / 16384]? = some (2350178, am_m143) := rfl
theorem bk_143_0 : am_bk 2350178 0 = some [.iconst 0, .istore 1, .iconst 0, .istore 2, .goto_w 4] := am_bk_of tb_143 rfl
theorem bk_143_4 : am_bk 2350178 4 = some [.iload 2, .aload 0, .invokeinterface 7 1, .if_icmp .ge 35, .aload 0, .getstatic 448, .iload 2, .aaload, .invokeinterface 6 1, .iconst 9, .if_icmp .ne 29, .iinc 1 1, .goto_w 29] := am_bk_of tb_143 rfl
theorem bk_143_29 : am_bk 2350178 29 = some [.iinc 2 1, .goto 4] := am_bk_of tb_143 rfl
theorem bk_143_35 : am_bk 2350178 35 = some [.iload 1, .ireturn] := am_bk_of tb_143 rfl
theorem tb_144 : am_tb[2366594 / 16384]? = some (2366594, am_m144) := rfl
theorem bk_144_0 : am_bk 2366594 0 = some [.iconst (-1), .istore 1, .aload 0, .invokeinterface 7 1, .istore 2, .iconst 0, .istore 3, .goto_w 9] := am_bk_of tb_144 rfl
theorem bk_144_9 : am_bk 2366594 9 = some [.iload 3, .aload 0, .invokeinterface 7 1, .if_icmp .ge 50, .iload 3, .iload 2, .if_icmp .ge 50, .aload 0, .getstatic 448, .iload 3, .aaload, .invokeinterface 6 1, .iconst 9, .if_icmp .ne 44, .iload 3, .istore 1, .aload 0, .iload 3, .invokevirtual 2333764, .istore 2, .goto_w 44] := am_bk_of tb_144 rfl
theorem bk_144_44 : am_bk 2366594 44 = some [.iinc 3 1, .goto 9] := am_bk_of tb_144 rfl
theorem bk_144_50 : am_bk 2366594 50 = some [.iload 1, .ireturn] := am_bk_of tb_144 rfl
theorem tb_145 : am_tb[2382882 / 16384]? = some (2382882, am_m145) := rfl
theorem bk_145_0 : am_bk 2382882 0 = some [.aload 0, .iconst 0, .invokevirtual 2399300, .return_] := am_bk_of tb_145 rfl
theorem tb_146 : am_tb[2399300 / 16384]? = some (2399300, am_m146) := rfl
theorem bk_146_0 : am_bk 2399300 0 = some [.aload 0, .iconst 0, .aload 0, .invokeinterface 7 1, .iload 1, .invokedynamic 3, .invokedynamic 2, .multianewarray 7 1, .aload 0, .iconst 0, .instanceof 450, .return_] := am_bk_of tb_146 rfl
theorem tb_147 : am_tb[2415750 / 16384]? = some (2415750, am_m147) := rfl
theorem bk_147_0 : am_bk 2415750 0 = some [.aload 0, .invokevirtual 2513954, .istore 3, .aload 0, .getstatic 448, .iload 3, .aaload, .iload 1, .multianewarray 6 1, .aload 0, .getstatic 448, .iload 3, .aaload, .iload 2, .multianewarray 6 2, .aload 0, .getstatic 448, .iload 3, .aaload, .iconst 1, .multianewarray 6 3, .aload 0, .getstatic 448, .iload 3, .aaload, .getstatic 384, .invokevirtual 2692130, .iload 3, .ireturn] := am_bk_of tb_147 rfl
theorem tb_148 : am_tb[2432068 / 16384]? = some (2432068, am_m148) := rfl
theorem bk_148_0 : am_bk 2432068 0 = some [.aload 0, .iload 1, .invokevirtual 2268228, .aload 0, .invokeinterface 7 1, .iload 1, .isub, .multianewarray 6 3, .return_] := am_bk_of tb_148 rfl
theorem tb_149 : am_tb[2448584 / 16384]? = some (2448584, am_m149) := rfl
theorem bk_149_0 : am_bk 2448584 0 = some [.iconst 0, .iload 2, .invokedynamic 2, .istore 4, .goto_w 7] := am_bk_of tb_149 rfl
theorem bk_149_7 : am_bk 2448584 7 = some [.iload 4, .iload 3, .if_icmp .ge 102, .iload 4, .aload 1, .invokeinterface 7 1, .if_icmp .ge 102, .aload 0, .getstatic 448, .aload 0, .invokevirtual 2513954, .aaload, .astore 5, .aload 5, .aload 1, .getstatic 448, .iload 4, .aaload, .invokeinterface 6 1, .multianewarray 6 1, .aload 5, .aload 1, .getstatic 448, .iload 4, .aaload, .invokeinterface 6 2, .multianewarray 6 2, .aload 5, .aload 1, .getstatic 448, .iload 4, .aaload, .invokeinterface 6 3, .multianewarray 6 3, .aload 5, .getstatic 384, .aload 1, .getstatic 448, .iload 4, .aaload, .getstatic 384, .invokevirtual 2806852, .iinc 4 1, .goto 7] := am_bk_of tb_149 rfl
theorem bk_149_102 : am_bk 2448584 102 = some [.return_] := am_bk_of tb_149 rfl
theorem tb_150 : am_tb[2464836 / 16384]? = some (2464836, am_m150) := rfl
theorem bk_150_0 : am_bk 2464836 0 = some [.aload 0, .aload 1, .iconst 0, .aload 1, .invokeinterface 7 1, .invokevirtual 2448584, .return_] := am_bk_of tb_150 rfl
theorem tb_151 : am_tb[2481220 / 16384]? = some (2481220, am_m151) := rfl
theorem bk_151_0 : am_bk 2481220 0 = some [.aload 0, .invokevirtual 2382882, .aload 0, .aload 1, .invokevirtual 2464836, .return_] := am_bk_of tb_151 rfl
theorem tb_152 : am_tb[2497670 / 16384]? = some (2497670, am_m152) := rfl
theorem bk_152_0 : am_bk 2497670 0 = some [.iconst 0, .istore 3, .goto_w 2] := am_bk_of tb_152 rfl
theorem bk_152_2 : am_bk 2497670 2 = some [.iload 3, .iload 1, .if_icmp .ge 45, .iload 3, .aload 0, .invokeinterface 7 1, .if_icmp .ge 45, .aload 0, .iload 3, .invokevirtual 2333764, .iload 1, .if_icmp .le 39, .aload 0, .getstatic 448, .iload 3, .aaload, .dup, .invokeinterface 6 3, .iload 2, .iadd, .multianewarray 6 3, .goto_w 39] := am_bk_of tb_152 rfl
theorem bk_152_39 : am_bk 2497670 39 = some [.iinc 3 1, .goto 2] := am_bk_of tb_152 rfl
theorem bk_152_45 : am_bk 2497670 45 = some [.return_] := am_bk_of tb_152 rfl
theorem tb_153 : am_tb[2513954 / 16384]? = some (2513954, am_m153) := rfl
theorem bk_153_0 : am_bk 2513954 0 = some [.aload 0, .invokeinterface 7 1, .iconst 100, .if_icmp .lt 17, .aload 0, .iconst 1, .instanceof 450, .iconst 100, .ireturn] := am_bk_of tb_153 rfl
theorem bk_153_17 : am_bk 2513954 17 = some [.aload 0, .dup, .invokeinterface 7 1, .iconst 1, .iadd, .multianewarray 7 1, .aload 0, .invokeinterface 7 1, .iconst 1, .isub, .ireturn] := am_bk_of tb_153 rfl
theorem tb_154 : am_tb[2526404 / 16384]? = some (2526404, am_m154) := rfl
theorem bk_154_0 : am_bk 2526404 0 = some [.aload 0, .invokeinterface 3 2, .istore 3, .iconst 0, .istore 4, .goto_w 8] := am_bk_of tb_154 rfl
theorem bk_154_8 : am_bk 2526404 8 = some [.iload 4, .iconst 8, .if_icmp .ge 77, .lload 1, .iconst 8, .iload 4, .imul, .lushr, .l2i, .iconst 255, .iand, .istore 5, .iload 5, .ifCond .ne 37, .goto 77] := am_bk_of tb_154 rfl
theorem bk_154_37 : am_bk 2526404 37 = some [.iload 5, .iconst 33, .if_icmp .lt 57, .iload 5, .iconst 126, .if_icmp .gt 57, .iload 3, .iconst 60, .if_icmp .lt 59, .goto_w 57] := am_bk_of tb_154 rfl
theorem bk_154_57 : am_bk 2526404 57 = some [.iconst 0, .freturn] := am_bk_of tb_154 rfl
theorem bk_154_59 : am_bk 2526404 59 = some [.aload 0, .getstatic 193, .iload 3, .iload 5, .i2c, .castore, .iinc 3 1, .iinc 4 1, .goto 8] := am_bk_of tb_154 rfl
theorem bk_154_77 : am_bk 2526404 77 = some [.aload 0, .iload 3, .multianewarray 3 2, .iconst 1, .freturn] := am_bk_of tb_154 rfl
theorem tb_155 : am_tb[2542690 / 16384]? = some (2542690, am_m155) := rfl
theorem bk_155_0 : am_bk 2542690 0 = some [.aload 0, .getstatic 192, .invokevirtual 1984546, .istore 1, .aload 0, .invokevirtual 2559042, .istore 2, .aload 0, .iconst 0, .multianewarray 3 2, .iload 2, .iconst (-1), .if_icmp .ne 35, .aload 0, .invokeinterface 3 10, .ifCond .ne 35, .aload 0, .invokeinterface 3 8, .ireturn] := am_bk_of tb_155 rfl
theorem bk_155_35 : am_bk 2542690 35 = some [.aload 0, .getstatic 192, .iload 1, .invokevirtual 2132036, .iload 2, .iconst (-1), .if_icmp .ne 53, .iconst (-100), .goto 56] := am_bk_of tb_155 rfl
theorem bk_155_53 : am_bk 2542690 53 = some [.iconst (-1), .iload 2, .isub, .goto_w 56] := am_bk_of tb_155 rfl
theorem bk_155_56 : am_bk 2542690 56 = some [.ireturn] := am_bk_of tb_155 rfl
theorem tb_156 : am_tb[2559042 / 16384]? = some (2559042, am_m156) := rfl
theorem bk_156_0 : am_bk 2559042 0 = some [.aload 0, .iconst 0, .multianewarray 3 6, .aload 0, .iconst 0, .multianewarray 3 7, .aload 0, .iconst 0, .instanceof 201, .aload 0, .iconst 0, .instanceof 202, .iconst 0, .istore 1, .goto_w 22] := am_bk_of tb_156 rfl
theorem bk_156_22 : am_bk 2559042 22 = some [.iload 1, .aload 0, .invokeinterface 3 2, .if_icmp .ge 74, .aload 0, .invokeinterface 3 9, .ifCond .eq 53, .aload 0, .aload 0, .getstatic 193, .iload 1, .caload, .invokevirtual 2608228, .ifCond .eq 66, .goto 68] := am_bk_of tb_156 rfl
theorem bk_156_53 : am_bk 2559042 53 = some [.aload 0, .aload 0, .getstatic 193, .iload 1, .caload, .invokevirtual 2575460, .ifCond .ne 68, .goto_w 66] := am_bk_of tb_156 rfl
theorem bk_156_66 : am_bk 2559042 66 = some [.iload 1, .ireturn] := am_bk_of tb_156 rfl
theorem bk_156_68 : am_bk 2559042 68 = some [.iinc 1 1, .goto 22] := am_bk_of tb_156 rfl
theorem bk_156_74 : am_bk 2559042 74 = some [.aload 0, .invokeinterface 3 9, .ifCond .eq 92, .aload 0, .invokeinterface 3 6, .ifCond .ne 92, .iconst (-1), .goto 96] := am_bk_of tb_156 rfl
theorem bk_156_92 : am_bk 2559042 92 = some [.aload 0, .invokeinterface 3 2, .goto_w 96] := am_bk_of tb_156 rfl
theorem bk_156_96 : am_bk 2559042 96 = some [.ireturn] := am_bk_of tb_156 rfl
theorem tb_157 : am_tb[2575460 / 16384]? = some (2575460, am_m157) := rfl
theorem bk_157_0 : am_bk 2575460 0 = some [.iload 1, .iconst 126, .if_icmp .ne 18, .aload 0, .dup, .invokeinterface 3 7, .iconst 1, .ixor, .multianewarray 3 7, .iconst 1, .freturn] := am_bk_of tb_157 rfl
theorem bk_157_18 : am_bk 2575460 18 = some [.iload 1, .iconst 40, .if_icmp .ne 29, .aload 0, .invokevirtual 2591778, .freturn] := am_bk_of tb_157 rfl
theorem bk_157_29 : am_bk 2575460 29 = some [.iload 1, .invokestatic 2637890, .istore 2, .iload 2, .iconst (-1), .if_icmp .ne 41, .iconst 0, .freturn] := am_bk_of tb_157 rfl
theorem bk_157_41 : am_bk 2575460 41 = some [.aload 0, .iload 2, .aload 0, .invokeinterface 3 7, .ixor, .multianewarray 3 8, .aload 0, .iconst 1, .instanceof 201, .iconst 1, .freturn] := am_bk_of tb_157 rfl
theorem tb_158 : am_tb[2591778 / 16384]? = some (2591778, am_m158) := rfl
theorem bk_158_0 : am_bk 2591778 0 = some [.aload 0, .invokeinterface 3 6, .iconst 8, .if_icmp .lt 11, .iconst 0, .freturn] := am_bk_of tb_158 rfl
theorem bk_158_11 : am_bk 2591778 11 = some [.aload 0, .getstatic 195, .aload 0, .invokeinterface 3 6, .aload 0, .invokeinterface 3 7, .iastore, .aload 0, .getstatic 197, .aload 0, .invokeinterface 3 6, .iconst (-1), .iastore, .aload 0, .dup, .invokeinterface 3 6, .iconst 1, .iadd, .multianewarray 3 6, .aload 0, .iconst 0, .multianewarray 3 7, .iconst 1, .freturn] := am_bk_of tb_158 rfl
theorem tb_159 : am_tb[2608228 / 16384]? = some (2608228, am_m159) := rfl
theorem bk_159_0 : am_bk 2608228 0 = some [.aload 0, .invokeinterface 3 6, .ifCond .ne 9, .iconst 0, .freturn] := am_bk_of tb_159 rfl
theorem bk_159_9 : am_bk 2608228 9 = some [.aload 0, .invokeinterface 3 6, .iconst 1, .isub, .istore 2, .aload 0, .getstatic 197, .iload 2, .iaload, .iconst (-1), .if_icmp .eq 46, .iload 1, .iconst 41, .if_icmp .ne 44, .aload 0, .iload 2, .invokevirtual 2624612, .ifCond .eq 44, .iconst 1, .goto 45] := am_bk_of tb_159 rfl
theorem bk_159_44 : am_bk 2608228 44 = some [.iconst 0, .goto_w 45] := am_bk_of tb_159 rfl
theorem bk_159_45 : am_bk 2608228 45 = some [.freturn] := am_bk_of tb_159 rfl
theorem bk_159_46 : am_bk 2608228 46 = some [.aload 0, .getstatic 197, .iload 2, .ldc 0, .iload 1, .invokedynamic 0, .iastore, .aload 0, .getstatic 196, .iload 2, .aload 0, .invokeinterface 3 8, .iastore, .aload 0, .iconst 0, .multianewarray 3 7, .aload 0, .iconst 0, .instanceof 201, .aload 0, .getstatic 197, .iload 2, .iaload, .iconst (-1), .if_icmp .eq 92, .iconst 1, .goto 93] := am_bk_of tb_159 rfl
theorem bk_159_92 : am_bk 2608228 92 = some [.iconst 0, .goto_w 93] := am_bk_of tb_159 rfl
theorem bk_159_93 : am_bk 2608228 93 = some [.freturn] := am_bk_of tb_159 rfl
theorem tb_160 : am_tb[2624612 / 16384]? = some (2624612, am_m160) := rfl
theorem bk_160_0 : am_bk 2624612 0 = some [.aload 0, .getstatic 192, .aload 0, .getstatic 197, .iload 1, .iaload, .aload 0, .getstatic 196, .iload 1, .iaload, .aload 0, .invokeinterface 3 8, .invokevirtual 2115784, .istore 2, .iload 2, .iconst (-1), .if_icmp .ne 36, .aload 0, .iconst 1, .instanceof 202, .iconst 0, .istore 2, .goto_w 36] := am_bk_of tb_160 rfl
theorem bk_160_36 : am_bk 2624612 36 = some [.aload 0, .iload 2, .aload 0, .getstatic 195, .iload 1, .iaload, .ixor, .multianewarray 3 8, .aload 0, .iload 1, .multianewarray 3 6, .iconst 1, .freturn] := am_bk_of tb_160 rfl
theorem tb_161 : am_tb[2637890 / 16384]? = some (2637890, am_m161) := rfl
theorem bk_161_0 : am_bk 2637890 0 = some [.iload 0, .iconst 97, .if_icmp .lt 19, .iload 0, .iconst 105, .if_icmp .ge 19, .iconst 2, .iload 0, .iconst 97, .isub, .imul, .ireturn] := am_bk_of tb_161 rfl
theorem bk_161_19 : am_bk 2637890 19 = some [.ldc 1, .iload 0, .invokedynamic 0, .istore 1, .iload 1, .ifCond .ge 34, .iconst (-1), .goto 38] := am_bk_of tb_161 rfl
theorem bk_161_34 : am_bk 2637890 34 = some [.iconst 16, .iload 1, .iadd, .goto_w 38] := am_bk_of tb_161 rfl
theorem bk_161_38 : am_bk 2637890 38 = some [.ireturn] := am_bk_of tb_161 rfl
theorem tb_162 : am_tb[2659362 / 16384]? = some (2659362, am_m162) := rfl
theorem bk_162_0 : am_bk 2659362 0 = some [.aload 0, .invokeinterface 5 1, .ireturn] := am_bk_of tb_162 rfl
theorem tb_163 : am_tb[2675780 / 16384]? = some (2675780, am_m163) := rfl
theorem bk_163_0 : am_bk 2675780 0 = some [.iload 1, .ifCond .lt 21, .iload 1, .aload 0, .invokeinterface 5 1, .if_icmp .ge 21, .aload 0, .getstatic 320, .iload 1, .iaload, .goto 22] := am_bk_of tb_163 rfl
theorem bk_163_21 : am_bk 2675780 21 = some [.iconst (-1), .goto_w 22] := am_bk_of tb_163 rfl
theorem bk_163_22 : am_bk 2675780 22 = some [.ireturn] := am_bk_of tb_163 rfl
theorem tb_164 : am_tb[2692130 / 16384]? = some (2692130, am_m164) := rfl
theorem bk_164_0 : am_bk 2692130 0 = some [.aload 0, .iconst 0, .multianewarray 5 1, .return_] := am_bk_of tb_164 rfl
theorem tb_165 : am_tb[2708580 / 16384]? = some (2708580, am_m165) := rfl
theorem bk_165_0 : am_bk 2708580 0 = some [.aload 0, .invokeinterface 5 1, .iconst 20, .if_icmp .lt 10, .return_] := am_bk_of tb_165 rfl
theorem bk_165_10 : am_bk 2708580 10 = some [.aload 0, .invokeinterface 5 1, .istore 2, .goto_w 15] := am_bk_of tb_165 rfl
theorem bk_165_15 : am_bk 2708580 15 = some [.iload 2, .ifCond .le 51, .aload 0, .getstatic 320, .iload 2, .iconst 1, .isub, .iaload, .iload 1, .if_icmp .le 51, .aload 0, .getstatic 320, .iload 2, .aload 0, .getstatic 320, .iload 2, .iconst 1, .isub, .iaload, .iastore, .iinc 2 (-1), .goto 15] := am_bk_of tb_165 rfl
theorem bk_165_51 : am_bk 2708580 51 = some [.aload 0, .getstatic 320, .iload 2, .iload 1, .iastore, .aload 0, .dup, .invokeinterface 5 1, .iconst 1, .iadd, .multianewarray 5 1, .return_] := am_bk_of tb_165 rfl
theorem tb_166 : am_tb[2724964 / 16384]? = some (2724964, am_m166) := rfl
theorem bk_166_0 : am_bk 2724964 0 = some [.iconst 0, .istore 2, .goto_w 2] := am_bk_of tb_166 rfl
theorem bk_166_2 : am_bk 2724964 2 = some [.iload 2, .aload 1, .invokeinterface 5 1, .if_icmp .ge 26, .aload 0, .aload 1, .getstatic 320, .iload 2, .iaload, .invokevirtual 2708580, .iinc 2 1, .goto 2] := am_bk_of tb_166 rfl
theorem bk_166_26 : am_bk 2724964 26 = some [.return_] := am_bk_of tb_166 rfl
theorem tb_167 : am_tb[2741348 / 16384]? = some (2741348, am_m167) := rfl
theorem bk_167_0 : am_bk 2741348 0 = some [.iconst 0, .istore 2, .goto_w 2] := am_bk_of tb_167 rfl
theorem bk_167_2 : am_bk 2741348 2 = some [.iload 2, .aload 0, .invokeinterface 5 1, .if_icmp .ge 59, .aload 0, .getstatic 320, .iload 2, .iaload, .iload 1, .if_icmp .ne 53, .aload 0, .dup, .invokeinterface 5 1, .iconst 1, .isub, .multianewarray 5 1, .aload 0, .getstatic 320, .iload 2, .iconst 1, .iadd, .aload 0, .getstatic 320, .iload 2, .aload 0, .invokeinterface 5 1, .iload 2, .isub, .invokedynamic 4, .iconst 1, .freturn] := am_bk_of tb_167 rfl
theorem bk_167_53 : am_bk 2741348 53 = some [.iinc 2 1, .goto 2] := am_bk_of tb_167 rfl
theorem bk_167_59 : am_bk 2741348 59 = some [.iconst 0, .freturn] := am_bk_of tb_167 rfl
theorem tb_168 : am_tb[2757764 / 16384]? = some (2757764, am_m168) := rfl
theorem bk_168_0 : am_bk 2757764 0 = some [.iconst 0, .istore 2, .iconst 0, .istore 3, .goto_w 4] := am_bk_of tb_168 rfl
theorem bk_168_4 : am_bk 2757764 4 = some [.iload 3, .aload 0, .invokeinterface 5 1, .if_icmp .ge 42, .iload 1, .iload 3, .ishr, .iconst 1, .iand, .iconst 1, .if_icmp .ne 36, .aload 0, .getstatic 320, .iload 2, .aload 0, .getstatic 320, .iload 3, .iaload, .iastore, .iinc 2 1, .goto_w 36] := am_bk_of tb_168 rfl
theorem bk_168_36 : am_bk 2757764 36 = some [.iinc 3 1, .goto 4] := am_bk_of tb_168 rfl
theorem bk_168_42 : am_bk 2757764 42 = some [.aload 0, .iload 2, .multianewarray 5 1, .return_] := am_bk_of tb_168 rfl
theorem tb_169 : am_tb[2774148 / 16384]? = some (2774148, am_m169) := rfl
theorem bk_169_0 : am_bk 2774148 0 = some [.iconst 0, .istore 2, .iconst 0, .istore 3, .goto_w 4] := am_bk_of tb_169 rfl
theorem bk_169_4 : am_bk 2774148 4 = some [.iload 3, .aload 0, .invokeinterface 5 1, .if_icmp .ge 31, .aload 0, .getstatic 320, .iload 3, .iaload, .iload 1, .if_icmp .ne 25, .iinc 2 1, .goto_w 25] := am_bk_of tb_169 rfl
theorem bk_169_25 : am_bk 2774148 25 = some [.iinc 3 1, .goto 4] := am_bk_of tb_169 rfl
theorem bk_169_31 : am_bk 2774148 31 = some [.iload 2, .ireturn] := am_bk_of tb_169 rfl
theorem tb_170 : am_tb[2790500 / 16384]? = some (2790500, am_m170) := rfl
theorem bk_170_0 : am_bk 2790500 0 = some [.iconst 0, .istore 2, .goto_w 2] := am_bk_of tb_170 rfl
theorem bk_170_2 : am_bk 2790500 2 = some [.iload 2, .aload 0, .invokeinterface 5 1, .if_icmp .ge 45, .aload 0, .getstatic 320, .iload 2, .iaload, .iload 1, .if_icmp .lt 39, .aload 0, .getstatic 320, .iload 2, .iaload, .iconst 1, .iand, .iconst 1, .if_icmp .ne 39, .aload 0, .getstatic 320, .iload 2, .iaload, .ireturn] := am_bk_of tb_170 rfl
theorem bk_170_39 : am_bk 2790500 39 = some [.iinc 2 1, .goto 2] := am_bk_of tb_170 rfl
theorem bk_170_45 : am_bk 2790500 45 = some [.iconst (-1), .ireturn] := am_bk_of tb_170 rfl
theorem tb_171 : am_tb[2806852 / 16384]? = some (2806852, am_m171) := rfl
theorem bk_171_0 : am_bk 2806852 0 = some [.aload 0, .aload 1, .invokeinterface 5 1, .multianewarray 5 1, .aload 1, .getstatic 320, .iconst 0, .aload 0, .getstatic 320, .iconst 0, .aload 0, .invokeinterface 5 1, .invokedynamic 4, .return_] := am_bk_of tb_171 rfl
theorem tb_172 : am_tb[2823334 / 16384]? = some (2823334, am_m172) := rfl
theorem bk_172_0 : am_bk 2823334 0 = some [.iconst 0, .istore 3, .aload 0, .iconst 0, .multianewarray 5 1, .iconst 0, .istore 4, .goto_w 10] := am_bk_of tb_172 rfl
theorem bk_172_10 : am_bk 2823334 10 = some [.iload 4, .aload 1, .invokeinterface 5 1, .if_icmp .ge 71, .iload 3, .ifCond .ne 39, .aload 1, .getstatic 320, .iload 4, .iaload, .iload 2, .if_icmp .ne 39, .iconst 1, .istore 3, .goto 65] := am_bk_of tb_172 rfl
theorem bk_172_39 : am_bk 2823334 39 = some [.aload 0, .getstatic 320, .aload 0, .invokeinterface 5 1, .aload 1, .getstatic 320, .iload 4, .iaload, .iastore, .aload 0, .dup, .invokeinterface 5 1, .iconst 1, .iadd, .multianewarray 5 1, .goto_w 65] := am_bk_of tb_172 rfl
theorem bk_172_65 : am_bk 2823334 65 = some [.iinc 4 1, .goto 10] := am_bk_of tb_172 rfl
theorem bk_172_71 : am_bk 2823334 71 = some [.iload 3, .freturn] := am_bk_of tb_172 rfl
theorem tb_173 : am_tb[2839652 / 16384]? = some (2839652, am_m173) := rfl
theorem bk_173_0 : am_bk 2839652 0 = some [.aload 0, .invokeinterface 5 1, .aload 1, .invokeinterface 5 1, .if_icmp .eq 13, .iconst 0, .freturn] := am_bk_of tb_173 rfl
theorem bk_173_13 : am_bk 2839652 13 = some [.iconst 0, .istore 2, .goto_w 15] := am_bk_of tb_173 rfl
theorem bk_173_15 : am_bk 2839652 15 = some [.iload 2, .aload 0, .invokeinterface 5 1, .if_icmp .ge 46, .aload 0, .getstatic 320, .iload 2, .iaload, .aload 1, .getstatic 320, .iload 2, .iaload, .if_icmp .eq 40, .iconst 0, .freturn] := am_bk_of tb_173 rfl
theorem bk_173_40 : am_bk 2839652 40 = some [.iinc 2 1, .goto 15] := am_bk_of tb_173 rfl
theorem bk_173_46 : am_bk 2839652 46 = some [.iconst 1, .freturn] := am_bk_of tb_173 rfl
theorem tb_174 : am_tb[2861124 / 16384]? = some (2861124, am_m174) := rfl
theorem bk_174_0 : am_bk 2861124 0 = some [.aload 0, .getstatic 643, .aload 1, .invokevirtual 2481220, .return_] := am_bk_of tb_174 rfl
theorem tb_175 : am_tb[2877474 / 16384]? = some (2877474, am_m175) := rfl
theorem bk_175_0 : am_bk 2877474 0 = some [.aload 0, .getstatic 643, .areturn] := am_bk_of tb_175 rfl
theorem tb_176 : am_tb[2893922 / 16384]? = some (2893922, am_m176) := rfl
theorem bk_176_0 : am_bk 2893922 0 = some [.aload 0, .getstatic 643, .invokevirtual 2366594, .istore 1, .iload 1, .iconst (-1), .if_icmp .ne 15, .iconst 0, .freturn] := am_bk_of tb_176 rfl
theorem bk_176_15 : am_bk 2893922 15 = some [.aload 0, .getstatic 642, .astore 2, .aload 0, .aload 0, .getstatic 643, .putstatic 2, .aload 0, .aload 2, .putstatic 3, .aload 0, .getstatic 643, .invokevirtual 2382882, .aload 0, .getstatic 643, .aload 0, .getstatic 642, .iconst 0, .iload 1, .invokevirtual 2448584, .aload 0, .iload 1, .invokevirtual 2910372, .aload 0, .getstatic 643, .aload 0, .getstatic 642, .aload 0, .getstatic 642, .iload 1, .invokevirtual 2333764, .aload 0, .getstatic 642, .invokevirtual 2235426, .invokevirtual 2448584, .aload 0, .getstatic 643, .iload 1, .aload 0, .getstatic 643, .invokevirtual 2235426, .aload 0, .getstatic 642, .invokevirtual 2235426, .isub, .invokevirtual 2497670, .iconst 1, .freturn] := am_bk_of tb_176 rfl
theorem tb_177 : am_tb[2910372 / 16384]? = some (2910372, am_m177) := rfl
theorem bk_177_0 : am_bk 2910372 0 = some [.aload 0, .getstatic 642, .iload 1, .invokevirtual 2268228, .invokeinterface 6 2, .istore 2, .aload 0, .getstatic 642, .iload 1, .invokevirtual 2300996, .istore 3, .aload 0, .getstatic 642, .iload 1, .invokevirtual 2317380, .istore 4, .aload 0, .getstatic 642, .iload 3, .invokevirtual 2268228, .invokeinterface 6 1, .ifCond .ne 70, .aload 0, .getstatic 643, .aload 0, .getstatic 642, .iload 4, .aload 0, .getstatic 642, .iload 4, .invokevirtual 2333764, .invokevirtual 2448584, .goto 190] := am_bk_of tb_177 rfl
theorem bk_177_70 : am_bk 2910372 70 = some [.aload 0, .getstatic 642, .iload 4, .invokevirtual 2268228, .invokeinterface 6 1, .ifCond .ne 108, .aload 0, .getstatic 643, .aload 0, .getstatic 642, .iload 3, .aload 0, .getstatic 642, .iload 3, .invokevirtual 2333764, .invokevirtual 2448584, .goto 190] := am_bk_of tb_177 rfl
theorem bk_177_108 : am_bk 2910372 108 = some [.aload 0, .getstatic 642, .iload 3, .invokevirtual 2268228, .invokeinterface 6 2, .iload 2, .if_icmp .eq 135, .aload 0, .iload 1, .iload 3, .iload 4, .iconst 1, .invokevirtual 2926922, .goto 190] := am_bk_of tb_177 rfl
theorem bk_177_135 : am_bk 2910372 135 = some [.aload 0, .getstatic 642, .iload 4, .invokevirtual 2268228, .invokeinterface 6 2, .iload 2, .iconst 1, .ixor, .if_icmp .eq 165, .aload 0, .iload 1, .iload 4, .iload 3, .iconst 0, .invokevirtual 2926922, .goto 190] := am_bk_of tb_177 rfl
theorem bk_177_165 : am_bk 2910372 165 = some [.iload 2, .iconst 1, .iand, .ifCond .ne 182, .aload 0, .iload 1, .iload 3, .iload 4, .invokevirtual 2959688, .goto 190] := am_bk_of tb_177 rfl
theorem bk_177_182 : am_bk 2910372 182 = some [.aload 0, .iload 1, .iload 4, .iload 3, .invokevirtual 2959688, .goto_w 190] := am_bk_of tb_177 rfl
theorem bk_177_190 : am_bk 2910372 190 = some [.return_] := am_bk_of tb_177 rfl
theorem tb_178 : am_tb[2926922 / 16384]? = some (2926922, am_m178) := rfl
theorem bk_178_0 : am_bk 2926922 0 = some [.aload 0, .getstatic 642, .iload 2, .invokevirtual 2268228, .astore 5, .aload 0, .getstatic 642, .iload 1, .invokevirtual 2268228, .invokeinterface 6 2, .istore 6, .aload 0, .getstatic 642, .iload 2, .invokevirtual 2300996, .istore 7, .aload 0, .getstatic 642, .iload 2, .invokevirtual 2317380, .istore 8, .aload 0, .getstatic 643, .aload 5, .invokeinterface 6 1, .aload 5, .invokeinterface 6 2, .invokevirtual 2415750, .istore 9, .aload 0, .getstatic 643, .iload 9, .invokevirtual 2268228, .getstatic 384, .aload 0, .getstatic 642, .iload 1, .invokevirtual 2268228, .getstatic 384, .invokevirtual 2806852, .aload 5, .invokeinterface 6 1, .iconst 5, .if_icmp .ne 122, .aload 0, .iload 6, .iload 7, .iload 3, .iload 4, .invokevirtual 2976042, .aload 0, .iload 6, .iload 8, .iload 3, .iload 4, .invokevirtual 2976042, .goto 269] := am_bk_of tb_178 rfl
theorem bk_178_122 : am_bk 2926922 122 = some [.aload 5, .invokeinterface 6 1, .iconst 8, .if_icmp .ne 203, .aload 0, .iload 7, .iload 4, .ifCond .eq 145, .iload 6, .goto 149] := am_bk_of tb_178 rfl
theorem bk_178_145 : am_bk 2926922 145 = some [.iload 6, .iconst 1, .ixor, .goto_w 149] := am_bk_of tb_178 rfl
theorem bk_178_149 : am_bk 2926922 149 = some [.aload 0, .getstatic 640, .aload 5, .invokeinterface 6 2, .invokevirtual 2082884, .invokevirtual 2943112, .ifCond .eq 203, .aload 0, .iload 6, .iload 7, .iload 3, .iload 4, .invokevirtual 2976042, .aload 0, .getstatic 643, .aload 0, .getstatic 642, .iload 8, .aload 0, .getstatic 642, .iload 8, .invokevirtual 2333764, .invokevirtual 2448584, .goto 269] := am_bk_of tb_178 rfl
theorem bk_178_203 : am_bk 2926922 203 = some [.aload 5, .invokeinterface 6 1, .iconst 8, .if_icmp .ne 249, .aload 0, .getstatic 643, .aload 0, .getstatic 642, .iload 7, .aload 0, .getstatic 642, .iload 7, .invokevirtual 2333764, .invokevirtual 2448584, .aload 0, .iload 6, .iload 8, .iload 3, .iload 4, .invokevirtual 2976042, .goto 269] := am_bk_of tb_178 rfl
theorem bk_178_249 : am_bk 2926922 249 = some [.aload 5, .invokeinterface 6 1, .iconst 2, .if_icmp .eq 269, .aload 0, .iload 6, .iload 7, .iload 3, .iload 4, .invokevirtual 2976042, .goto_w 269] := am_bk_of tb_178 rfl
theorem bk_178_269 : am_bk 2926922 269 = some [.aload 0, .getstatic 643, .iload 9, .invokevirtual 2432068, .return_] := am_bk_of tb_178 rfl
theorem tb_179 : am_tb[2943112 / 16384]? = some (2943112, am_m179) := rfl
theorem bk_179_0 : am_bk 2943112 0 = some [.aload 0, .getstatic 642, .iload 1, .invokevirtual 2268228, .getstatic 384, .iload 2, .invokevirtual 2774148, .iload 2, .iload 3, .if_icmp .ne 24, .iconst 1, .goto 25] := am_bk_of tb_179 rfl
theorem bk_179_24 : am_bk 2943112 24 = some [.iconst 0, .goto_w 25] := am_bk_of tb_179 rfl
theorem bk_179_25 : am_bk 2943112 25 = some [.if_icmp .le 32, .iconst 1, .goto 33] := am_bk_of tb_179 rfl
theorem bk_179_32 : am_bk 2943112 32 = some [.iconst 0, .goto_w 33] := am_bk_of tb_179 rfl
theorem bk_179_33 : am_bk 2943112 33 = some [.freturn] := am_bk_of tb_179 rfl
theorem tb_180 : am_tb[2959688 / 16384]? = some (2959688, am_m180) := rfl
theorem bk_180_0 : am_bk 2959688 0 = some [.aload 0, .getstatic 642, .iload 2, .invokevirtual 2268228, .astore 4, .aload 0, .getstatic 640, .aload 4, .invokeinterface 6 2, .invokevirtual 2082884, .istore 5, .aload 0, .getstatic 640, .aload 4, .invokeinterface 6 2, .invokevirtual 2099268, .istore 6, .aload 0, .getstatic 642, .iload 2, .invokevirtual 2300996, .istore 7, .aload 0, .getstatic 642, .iload 3, .invokevirtual 2300996, .istore 8, .aload 4, .invokeinterface 6 1, .iconst 1, .if_icmp .ne 92, .aload 0, .getstatic 643, .aload 0, .getstatic 642, .iload 8, .aload 0, .getstatic 642, .iload 8, .invokevirtual 2333764, .invokevirtual 2448584, .goto 233] := am_bk_of tb_180 rfl
theorem bk_180_92 : am_bk 2959688 92 = some [.aload 4, .invokeinterface 6 1, .iconst 6, .if_icmp .ne 116, .aload 0, .iload 5, .iload 7, .iload 8, .iconst 1, .invokevirtual 2976042, .goto 233] := am_bk_of tb_180 rfl
theorem bk_180_116 : am_bk 2959688 116 = some [.aload 4, .invokeinterface 6 1, .iconst 7, .if_icmp .ne 146, .aload 0, .iload 6, .iload 7, .aload 0, .getstatic 642, .iload 3, .invokevirtual 2317380, .iconst 1, .invokevirtual 2976042, .goto 233] := am_bk_of tb_180 rfl
theorem bk_180_146 : am_bk 2959688 146 = some [.aload 0, .getstatic 643, .iconst 9, .iload 5, .invokevirtual 2415750, .istore 9, .aload 0, .getstatic 643, .iload 9, .invokevirtual 2268228, .getstatic 384, .aload 0, .getstatic 642, .iload 1, .invokevirtual 2268228, .getstatic 384, .invokevirtual 2806852, .aload 0, .getstatic 643, .aload 0, .getstatic 642, .iload 7, .aload 0, .getstatic 642, .iload 7, .invokevirtual 2333764, .invokevirtual 2448584, .aload 0, .iload 6, .aload 0, .getstatic 642, .iload 2, .invokevirtual 2317380, .iload 8, .iconst 1, .invokevirtual 2976042, .aload 0, .getstatic 643, .iload 9, .invokevirtual 2432068, .goto_w 233] := am_bk_of tb_180 rfl
theorem bk_180_233 : am_bk 2959688 233 = some [.return_] := am_bk_of tb_180 rfl
theorem tb_181 : am_tb[2976042 / 16384]? = some (2976042, am_m181) := rfl
theorem bk_181_0 : am_bk 2976042 0 = some [.iload 4, .ifCond .eq 9, .iload 2, .goto 10] := am_bk_of tb_181 rfl
theorem bk_181_9 : am_bk 2976042 9 = some [.iload 3, .goto_w 10] := am_bk_of tb_181 rfl
theorem bk_181_10 : am_bk 2976042 10 = some [.istore 5, .iload 4, .ifCond .eq 21, .iload 3, .goto 22] := am_bk_of tb_181 rfl
theorem bk_181_21 : am_bk 2976042 21 = some [.iload 2, .goto_w 22] := am_bk_of tb_181 rfl
theorem bk_181_22 : am_bk 2976042 22 = some [.istore 6, .aload 0, .getstatic 643, .iconst 9, .iload 1, .invokevirtual 2415750, .istore 7, .aload 0, .getstatic 643, .iload 7, .invokevirtual 2268228, .getstatic 384, .astore 8, .aload 8, .aload 0, .getstatic 642, .iload 5, .invokevirtual 2268228, .getstatic 384, .iload 1, .invokevirtual 2823334, .pop, .aload 0, .getstatic 641, .aload 0, .getstatic 642, .iload 6, .invokevirtual 2268228, .getstatic 384, .iload 1, .iconst 1, .ixor, .invokevirtual 2823334, .pop, .aload 8, .aload 0, .getstatic 641, .invokevirtual 2724964, .aload 0, .getstatic 643, .aload 0, .getstatic 642, .iload 5, .aload 0, .getstatic 642, .iload 5, .invokevirtual 2333764, .invokevirtual 2448584, .aload 0, .getstatic 643, .aload 0, .getstatic 642, .iload 6, .aload 0, .getstatic 642, .iload 6, .invokevirtual 2333764, .invokevirtual 2448584, .aload 0, .getstatic 643, .iload 7, .invokevirtual 2432068, .return_] := am_bk_of tb_181 rfl
theorem tb_182 : am_tb[2986086 / 16384]? = some (2986086, am_m182) := rfl
theorem bk_182_0 : am_bk 2986086 0 = some [.aload 0, .iconst 0, .multianewarray 4 2, .aload 0, .iload 1, .iconst 0, .invokevirtual 3002470, .iload 2, .ifCond .lt 32, .iload 2, .aload 0, .invokeinterface 4 2, .if_icmp .ge 32, .aload 0, .getstatic 257, .iload 2, .caload, .goto 33] := am_bk_of tb_182 rfl
theorem bk_182_32 : am_bk 2986086 32 = some [.iconst 0, .goto_w 33] := am_bk_of tb_182 rfl
theorem bk_182_33 : am_bk 2986086 33 = some [.dreturn] := am_bk_of tb_182 rfl
theorem tb_183 : am_tb[3002470 / 16384]? = some (3002470, am_m183) := rfl
theorem bk_183_0 : am_bk 3002470 0 = some [.iload 2, .iconst 8, .if_icmp .le 7, .return_] := am_bk_of tb_183 rfl
theorem bk_183_7 : am_bk 3002470 7 = some [.aload 0, .getstatic 256, .iload 1, .invokevirtual 2017348, .ifCond .eq 80, .aload 0, .iconst 40, .invokevirtual 3035204, .aload 0, .aload 0, .getstatic 256, .iload 1, .invokevirtual 2082884, .iload 2, .iconst 1, .iadd, .invokevirtual 3002470, .aload 0, .ldc 0, .aload 0, .getstatic 256, .iload 1, .invokevirtual 2066500, .invokedynamic 1, .invokevirtual 3035204, .aload 0, .aload 0, .getstatic 256, .iload 1, .invokevirtual 2099268, .iload 2, .iconst 1, .iadd, .invokevirtual 3002470, .aload 0, .iconst 41, .invokevirtual 3035204, .goto 113] := am_bk_of tb_183 rfl
theorem bk_183_80 : am_bk 3002470 80 = some [.iload 1, .iconst 16, .if_icmp .lt 108, .iload 1, .iconst 20, .if_icmp .ge 108, .aload 0, .ldc 1, .iload 1, .iconst 16, .isub, .invokedynamic 1, .invokevirtual 3035204, .goto 113] := am_bk_of tb_183 rfl
theorem bk_183_108 : am_bk 3002470 108 = some [.aload 0, .iload 1, .invokevirtual 3018820, .goto_w 113] := am_bk_of tb_183 rfl
theorem bk_183_113 : am_bk 3002470 113 = some [.return_] := am_bk_of tb_183 rfl
theorem tb_184 : am_tb[3018820 / 16384]? = some (3018820, am_m184) := rfl
theorem bk_184_0 : am_bk 3018820 0 = some [.iload 1, .iconst 1, .iand, .iconst 1, .if_icmp .ne 13, .aload 0, .iconst 126, .invokevirtual 3035204, .goto_w 13] := am_bk_of tb_184 rfl
theorem bk_184_13 : am_bk 3018820 13 = some [.aload 0, .iconst 97, .iload 1, .iconst 2, .idiv, .iadd, .i2c, .invokevirtual 3035204, .return_] := am_bk_of tb_184 rfl
theorem tb_185 : am_tb[3035204 / 16384]? = some (3035204, am_m185) := rfl
theorem bk_185_0 : am_bk 3035204 0 = some [.aload 0, .invokeinterface 4 2, .iconst 37, .if_icmp .ge 29, .aload 0, .getstatic 257, .aload 0, .invokeinterface 4 2, .iload 1, .castore, .aload 0, .dup, .invokeinterface 4 2, .iconst 1, .iadd, .multianewarray 4 2, .goto_w 29] := am_bk_of tb_185 rfl
theorem bk_185_29 : am_bk 3035204 29 = some [.return_] := am_bk_of tb_185 rfl
theorem tb_186 : am_tb[3047627 / 16384]? = some (3047627, am_m186) := rfl
theorem bk_186_0 : am_bk 3047627 0 = some [.aload 4, .iconst 0, .aload 0, .iload 1, .iload 2, .iload 3, .invokevirtual 33960, .i2l, .lastore, .goto 23] := am_bk_of tb_186 rfl
theorem bk_186_15 : am_bk 3047627 15 = some [.astore 5, .iconst 1, .ireturn] := am_bk_of tb_186 rfl
theorem bk_186_19 : am_bk 3047627 19 = some [.astore 5, .iconst 2, .ireturn] := am_bk_of tb_186 rfl
theorem bk_186_23 : am_bk 3047627 23 = some [.iconst 0, .ireturn] := am_bk_of tb_186 rfl
theorem tb_187 : am_tb[3063977 / 16384]? = some (3063977, am_m187) := rfl
theorem bk_187_0 : am_bk 3063977 0 = some [.aload 3, .iconst 0, .aload 0, .iload 1, .iload 2, .invokevirtual 66662, .i2l, .lastore, .goto 17] := am_bk_of tb_187 rfl
theorem bk_187_13 : am_bk 3063977 13 = some [.astore 4, .iconst 1, .ireturn] := am_bk_of tb_187 rfl
theorem bk_187_17 : am_bk 3063977 17 = some [.iconst 0, .ireturn] := am_bk_of tb_187 rfl
theorem tb_188 : am_tb[3080361 / 16384]? = some (3080361, am_m188) := rfl
theorem bk_188_0 : am_bk 3080361 0 = some [.aload 3, .iconst 0, .aload 0, .iload 1, .iload 2, .invokevirtual 83046, .i2l, .lastore, .goto 17] := am_bk_of tb_188 rfl
theorem bk_188_13 : am_bk 3080361 13 = some [.astore 4, .iconst 1, .ireturn] := am_bk_of tb_188 rfl
theorem bk_188_17 : am_bk 3080361 17 = some [.iconst 0, .ireturn] := am_bk_of tb_188 rfl
theorem tb_189 : am_tb[3096711 / 16384]? = some (3096711, am_m189) := rfl
theorem bk_189_0 : am_bk 3096711 0 = some [.aload 2, .iconst 0, .aload 0, .iload 1, .invokevirtual 99396, .i2l, .lastore, .goto 18] := am_bk_of tb_189 rfl
theorem bk_189_12 : am_bk 3096711 12 = some [.astore 3, .iconst 1, .ireturn] := am_bk_of tb_189 rfl
theorem bk_189_15 : am_bk 3096711 15 = some [.astore 3, .iconst 2, .ireturn] := am_bk_of tb_189 rfl
theorem bk_189_18 : am_bk 3096711 18 = some [.iconst 0, .ireturn] := am_bk_of tb_189 rfl
theorem tb_190 : am_tb[3113129 / 16384]? = some (3113129, am_m190) := rfl
theorem bk_190_0 : am_bk 3113129 0 = some [.aload 3, .iconst 0, .aload 0, .iload 1, .iload 2, .invokevirtual 148614, .i2l, .lastore, .goto 17] := am_bk_of tb_190 rfl
theorem bk_190_13 : am_bk 3113129 13 = some [.astore 4, .iconst 1, .ireturn] := am_bk_of tb_190 rfl
theorem bk_190_17 : am_bk 3113129 17 = some [.iconst 0, .ireturn] := am_bk_of tb_190 rfl
theorem tb_191 : am_tb[3129479 / 16384]? = some (3129479, am_m191) := rfl
theorem bk_191_0 : am_bk 3129479 0 = some [.aload 2, .iconst 0, .aload 0, .iload 1, .invokevirtual 164964, .i2l, .lastore, .goto 15] := am_bk_of tb_191 rfl
theorem bk_191_12 : am_bk 3129479 12 = some [.astore 3, .iconst 1, .ireturn] := am_bk_of tb_191 rfl
theorem bk_191_15 : am_bk 3129479 15 = some [.iconst 0, .ireturn] := am_bk_of tb_191 rfl
theorem tb_192 : am_tb[3145863 / 16384]? = some (3145863, am_m192) := rfl
theorem bk_192_0 : am_bk 3145863 0 = some [.aload 2, .iconst 0, .aload 0, .iload 1, .invokevirtual 181348, .i2l, .lastore, .goto 18] := am_bk_of tb_192 rfl
theorem bk_192_12 : am_bk 3145863 12 = some [.astore 3, .iconst 1, .ireturn] := am_bk_of tb_192 rfl
theorem bk_192_15 : am_bk 3145863 15 = some [.astore 3, .iconst 2, .ireturn] := am_bk_of tb_192 rfl
theorem bk_192_18 : am_bk 3145863 18 = some [.iconst 0, .ireturn] := am_bk_of tb_192 rfl
theorem tb_193 : am_tb[3162247 / 16384]? = some (3162247, am_m193) := rfl
theorem bk_193_0 : am_bk 3162247 0 = some [.aload 2, .iconst 0, .aload 0, .iload 1, .invokevirtual 197764, .i2l, .lastore, .goto 21] := am_bk_of tb_193 rfl
theorem bk_193_12 : am_bk 3162247 12 = some [.astore 3, .iconst 1, .ireturn] := am_bk_of tb_193 rfl
theorem bk_193_15 : am_bk 3162247 15 = some [.astore 3, .iconst 2, .ireturn] := am_bk_of tb_193 rfl
theorem bk_193_18 : am_bk 3162247 18 = some [.astore 3, .iconst 3, .ireturn] := am_bk_of tb_193 rfl
theorem bk_193_21 : am_bk 3162247 21 = some [.iconst 0, .ireturn] := am_bk_of tb_193 rfl
theorem tb_194 : am_tb[3178665 / 16384]? = some (3178665, am_m194) := rfl
theorem bk_194_0 : am_bk 3178665 0 = some [.aload 3, .iconst 0, .aload 0, .iload 1, .iload 2, .invokevirtual 214182, .i2l, .lastore, .goto 25] := am_bk_of tb_194 rfl
theorem bk_194_13 : am_bk 3178665 13 = some [.astore 4, .iconst 1, .ireturn] := am_bk_of tb_194 rfl
theorem bk_194_17 : am_bk 3178665 17 = some [.astore 4, .iconst 2, .ireturn] := am_bk_of tb_194 rfl
theorem bk_194_21 : am_bk 3178665 21 = some [.astore 4, .iconst 3, .ireturn] := am_bk_of tb_194 rfl
theorem bk_194_25 : am_bk 3178665 25 = some [.iconst 0, .ireturn] := am_bk_of tb_194 rfl
theorem tb_195 : am_tb[3195083 / 16384]? = some (3195083, am_m195) := rfl
theorem bk_195_0 : am_bk 3195083 0 = some [.aload 4, .iconst 0, .aload 0, .iload 1, .iload 2, .iload 3, .invokevirtual 230600, .i2l, .lastore, .goto 27] := am_bk_of tb_195 rfl
theorem bk_195_15 : am_bk 3195083 15 = some [.astore 5, .iconst 1, .ireturn] := am_bk_of tb_195 rfl
theorem bk_195_19 : am_bk 3195083 19 = some [.astore 5, .iconst 2, .ireturn] := am_bk_of tb_195 rfl
theorem bk_195_23 : am_bk 3195083 23 = some [.astore 5, .iconst 3, .ireturn] := am_bk_of tb_195 rfl
theorem bk_195_27 : am_bk 3195083 27 = some [.iconst 0, .ireturn] := am_bk_of tb_195 rfl
theorem tb_196 : am_tb[3211467 / 16384]? = some (3211467, am_m196) := rfl
theorem bk_196_0 : am_bk 3211467 0 = some [.aload 4, .iconst 0, .aload 0, .iload 1, .iload 2, .iload 3, .invokevirtual 246952, .i2l, .lastore, .goto 27] := am_bk_of tb_196 rfl
theorem bk_196_15 : am_bk 3211467 15 = some [.astore 5, .iconst 1, .ireturn] := am_bk_of tb_196 rfl
theorem bk_196_19 : am_bk 3211467 19 = some [.astore 5, .iconst 2, .ireturn] := am_bk_of tb_196 rfl
theorem bk_196_23 : am_bk 3211467 23 = some [.astore 5, .iconst 3, .ireturn] := am_bk_of tb_196 rfl
theorem bk_196_27 : am_bk 3211467 27 = some [.iconst 0, .ireturn] := am_bk_of tb_196 rfl
theorem tb_197 : am_tb[3227851 / 16384]? = some (3227851, am_m197) := rfl
theorem bk_197_0 : am_bk 3227851 0 = some [.aload 4, .iconst 0, .aload 0, .iload 1, .iload 2, .iload 3, .invokevirtual 263336, .i2l, .lastore, .goto 27] := am_bk_of tb_197 rfl
theorem bk_197_15 : am_bk 3227851 15 = some [.astore 5, .iconst 1, .ireturn] := am_bk_of tb_197 rfl
theorem bk_197_19 : am_bk 3227851 19 = some [.astore 5, .iconst 2, .ireturn] := am_bk_of tb_197 rfl
theorem bk_197_23 : am_bk 3227851 23 = some [.astore 5, .iconst 3, .ireturn] := am_bk_of tb_197 rfl
theorem bk_197_27 : am_bk 3227851 27 = some [.iconst 0, .ireturn] := am_bk_of tb_197 rfl
theorem tb_198 : am_tb[3244235 / 16384]? = some (3244235, am_m198) := rfl
theorem bk_198_0 : am_bk 3244235 0 = some [.aload 4, .iconst 0, .aload 0, .iload 1, .iload 2, .iload 3, .invokevirtual 279720, .i2l, .lastore, .goto 27] := am_bk_of tb_198 rfl
theorem bk_198_15 : am_bk 3244235 15 = some [.astore 5, .iconst 1, .ireturn] := am_bk_of tb_198 rfl
theorem bk_198_19 : am_bk 3244235 19 = some [.astore 5, .iconst 2, .ireturn] := am_bk_of tb_198 rfl
theorem bk_198_23 : am_bk 3244235 23 = some [.astore 5, .iconst 3, .ireturn] := am_bk_of tb_198 rfl
theorem bk_198_27 : am_bk 3244235 27 = some [.iconst 0, .ireturn] := am_bk_of tb_198 rfl
theorem tb_199 : am_tb[3260551 / 16384]? = some (3260551, am_m199) := rfl
theorem bk_199_0 : am_bk 3260551 0 = some [.aload 2, .iconst 0, .aload 0, .iload 1, .invokevirtual 296036, .i2l, .lastore, .goto 15] := am_bk_of tb_199 rfl
theorem bk_199_12 : am_bk 3260551 12 = some [.astore 3, .iconst 1, .ireturn] := am_bk_of tb_199 rfl
theorem bk_199_15 : am_bk 3260551 15 = some [.iconst 0, .ireturn] := am_bk_of tb_199 rfl
theorem tb_200 : am_tb[3276935 / 16384]? = some (3276935, am_m200) := rfl
theorem bk_200_0 : am_bk 3276935 0 = some [.aload 2, .iconst 0, .aload 0, .iload 1, .invokevirtual 312388, .ifCond .eq 14, .jsr_w 1, .goto 15] := am_bk_of tb_200 rfl
theorem bk_200_14 : am_bk 3276935 14 = some [.jsr_w 0, .goto_w 15] := am_bk_of tb_200 rfl
theorem bk_200_15 : am_bk 3276935 15 = some [.lastore, .goto 22] := am_bk_of tb_200 rfl
theorem bk_200_19 : am_bk 3276935 19 = some [.astore 3, .iconst 1, .ireturn] := am_bk_of tb_200 rfl
theorem bk_200_22 : am_bk 3276935 22 = some [.iconst 0, .ireturn] := am_bk_of tb_200 rfl
theorem tb_201 : am_tb[3293319 / 16384]? = some (3293319, am_m201) := rfl
theorem bk_201_0 : am_bk 3293319 0 = some [.aload 2, .iconst 0, .aload 0, .iload 1, .invokevirtual 328772, .i2l, .lastore, .goto 21] := am_bk_of tb_201 rfl
theorem bk_201_12 : am_bk 3293319 12 = some [.astore 3, .iconst 1, .ireturn] := am_bk_of tb_201 rfl
theorem bk_201_15 : am_bk 3293319 15 = some [.astore 3, .iconst 2, .ireturn] := am_bk_of tb_201 rfl
theorem bk_201_18 : am_bk 3293319 18 = some [.astore 3, .iconst 3, .ireturn] := am_bk_of tb_201 rfl
theorem bk_201_21 : am_bk 3293319 21 = some [.iconst 0, .ireturn] := am_bk_of tb_201 rfl
theorem tb_202 : am_tb[3309703 / 16384]? = some (3309703, am_m202) := rfl
theorem bk_202_0 : am_bk 3309703 0 = some [.aload 2, .iconst 0, .aload 0, .iload 1, .invokevirtual 345188, .i2l, .lastore, .goto 21] := am_bk_of tb_202 rfl
theorem bk_202_12 : am_bk 3309703 12 = some [.astore 3, .iconst 1, .ireturn] := am_bk_of tb_202 rfl
theorem bk_202_15 : am_bk 3309703 15 = some [.astore 3, .iconst 2, .ireturn] := am_bk_of tb_202 rfl
theorem bk_202_18 : am_bk 3309703 18 = some [.astore 3, .iconst 3, .ireturn] := am_bk_of tb_202 rfl
theorem bk_202_21 : am_bk 3309703 21 = some [.iconst 0, .ireturn] := am_bk_of tb_202 rfl
theorem tb_203 : am_tb[3326087 / 16384]? = some (3326087, am_m203) := rfl
theorem bk_203_0 : am_bk 3326087 0 = some [.aload 2, .iconst 0, .aload 0, .iload 1, .invokevirtual 361540, .i2l, .lastore, .goto 15] := am_bk_of tb_203 rfl
theorem bk_203_12 : am_bk 3326087 12 = some [.astore 3, .iconst 1, .ireturn] := am_bk_of tb_203 rfl
theorem bk_203_15 : am_bk 3326087 15 = some [.iconst 0, .ireturn] := am_bk_of tb_203 rfl
theorem tb_204 : am_tb[3342471 / 16384]? = some (3342471, am_m204) := rfl
theorem bk_204_0 : am_bk 3342471 0 = some [.aload 2, .iconst 0, .aload 0, .iload 1, .invokevirtual 377924, .i2l, .lastore, .goto 15] := am_bk_of tb_204 rfl
theorem bk_204_12 : am_bk 3342471 12 = some [.astore 3, .iconst 1, .ireturn] := am_bk_of tb_204 rfl
theorem bk_204_15 : am_bk 3342471 15 = some [.iconst 0, .ireturn] := am_bk_of tb_204 rfl
theorem tb_205 : am_tb[3358923 / 16384]? = some (3358923, am_m205) := rfl
theorem bk_205_0 : am_bk 3358923 0 = some [.aload 4, .iconst 0, .aload 0, .iload 1, .iload 2, .iload 3, .invokevirtual 394408, .i2l, .lastore, .goto 23] := am_bk_of tb_205 rfl
theorem bk_205_15 : am_bk 3358923 15 = some [.astore 5, .iconst 1, .ireturn] := am_bk_of tb_205 rfl
theorem bk_205_19 : am_bk 3358923 19 = some [.astore 5, .iconst 2, .ireturn] := am_bk_of tb_205 rfl
theorem bk_205_23 : am_bk 3358923 23 = some [.iconst 0, .ireturn] := am_bk_of tb_205 rfl
theorem tb_206 : am_tb[3375307 / 16384]? = some (3375307, am_m206) := rfl
theorem bk_206_0 : am_bk 3375307 0 = some [.aload 4, .iconst 0, .aload 0, .iload 1, .iload 2, .iload 3, .invokevirtual 410760, .i2l, .lastore, .goto 23] := am_bk_of tb_206 rfl
theorem bk_206_15 : am_bk 3375307 15 = some [.astore 5, .iconst 1, .ireturn] := am_bk_of tb_206 rfl
theorem bk_206_19 : am_bk 3375307 19 = some [.astore 5, .iconst 2, .ireturn] := am_bk_of tb_206 rfl
theorem bk_206_23 : am_bk 3375307 23 = some [.iconst 0, .ireturn] := am_bk_of tb_206 rfl
theorem tb_207 : am_tb[3391714 / 16384]? = some (3391714, am_m207) := rfl
theorem bk_207_20 : am_bk 3391714 20 = some [.iconst 0, .istore 4, .goto_w 23] := am_bk_of tb_207 rfl
theorem bk_207_23 : am_bk 3391714 23 = some [.iload 4, .aload 0, .arraylength, .iconst 4, .isub, .if_icmp .gt 1710, .aload 0, .iload 4, .iaload, .iconst 31, .iand, .tableswitch 1704 0 25 #[156, 213, 226, 306, 319, 387, 455, 511, 536, 561, 629, 685, 741, 797, 865, 961, 1041, 1121, 1201, 1257, 1320, 1376, 1432, 1488, 1544, 1624]] := am_bk_of tb_207 rfl
theorem bk_207_156 : am_bk 3391714 156 = some [.aload 1, .aload 0, .iload 4, .iconst 1, .iadd, .iaload, .i2l, .iconst 32, .lshl, .aload 0, .iload 4, .iconst 2, .iadd, .iaload, .i2l, .jsr_w 4294967295, .land, .lor, .invokevirtual 1124, .aload 2, .aload 0, .iload 4, .iconst 1, .iadd, .iaload, .i2l, .iconst 32, .lshl, .aload 0, .iload 4, .iconst 2, .iadd, .iaload, .i2l, .jsr_w 4294967295, .land, .lor, .invokevirtual 781508, .if_icmp .eq 1704, .iconst 0, .freturn] := am_bk_of tb_207 rfl
theorem bk_207_213 : am_bk 3391714 213 = some [.aload 1, .invokevirtual 17442, .aload 2, .invokevirtual 863330, .if_icmp .eq 1704, .iconst 0, .freturn] := am_bk_of tb_207 rfl
theorem bk_207_226 : am_bk 3391714 226 = some [.aload 1, .aload 0, .iload 4, .iconst 1, .iadd, .iaload, .aload 0, .iload 4, .iconst 2, .iadd, .iaload, .aload 0, .iload 4, .iconst 3, .iadd, .iaload, .aload 3, .invokestatic 3047627, .istore 5, .aload 2, .aload 0, .iload 4, .iconst 1, .iadd, .iaload, .aload 0, .iload 4, .iconst 2, .iadd, .iaload, .aload 0, .iload 4, .iconst 3, .iadd, .iaload, .invokevirtual 732328, .istore 6, .aload 2, .invokevirtual 584738, .iload 5, .if_icmp .eq 286, .iconst 0, .freturn] := am_bk_of tb_207 rfl
theorem bk_207_286 : am_bk 3391714 286 = some [.iload 5, .ifCond .ne 303, .aload 3, .iconst 0, .laload, .iload 6, .i2l, .lcmp, .ifCond .eq 303, .iconst 0, .freturn] := am_bk_of tb_207 rfl
theorem bk_207_303 : am_bk 3391714 303 = some [.goto 1704] := am_bk_of tb_207 rfl
theorem bk_207_306 : am_bk 3391714 306 = some [.aload 1, .invokevirtual 50210, .aload 2, .invokevirtual 748578, .if_icmp .eq 1704, .iconst 0, .freturn] := am_bk_of tb_207 rfl
theorem bk_207_319 : am_bk 3391714 319 = some [.aload 1, .aload 0, .iload 4, .iconst 1, .iadd, .iaload, .aload 0, .iload 4, .iconst 2, .iadd, .iaload, .aload 3, .invokestatic 3063977, .istore 5, .aload 2, .aload 0, .iload 4, .iconst 1, .iadd, .iaload, .aload 0, .iload 4, .iconst 2, .iadd, .iaload, .invokevirtual 765030, .istore 6, .aload 2, .invokevirtual 584738, .iload 5, .if_icmp .eq 367, .iconst 0, .freturn] := am_bk_of tb_207 rfl
theorem bk_207_367 : am_bk 3391714 367 = some [.iload 5, .ifCond .ne 384, .aload 3, .iconst 0, .laload, .iload 6, .i2l, .lcmp, .ifCond .eq 384, .iconst 0, .freturn] := am_bk_of tb_207 rfl
theorem bk_207_384 : am_bk 3391714 384 = some [.goto 1704] := am_bk_of tb_207 rfl
theorem bk_207_387 : am_bk 3391714 387 = some [.aload 1, .aload 0, .iload 4, .iconst 1, .iadd, .iaload, .aload 0, .iload 4, .iconst 2, .iadd, .iaload, .aload 3, .invokestatic 3080361, .istore 5, .aload 2, .aload 0, .iload 4, .iconst 1, .iadd, .iaload, .aload 0, .iload 4, .iconst 2, .iadd, .iaload, .invokevirtual 912486, .istore 6, .aload 2, .invokevirtual 584738, .iload 5, .if_icmp .eq 435, .iconst 0, .freturn] := am_bk_of tb_207 rfl
theorem bk_207_435 : am_bk 3391714 435 = some [.iload 5, .ifCond .ne 452, .aload 3, .iconst 0, .laload, .iload 6, .i2l, .lcmp, .ifCond .eq 452, .iconst 0, .freturn] := am_bk_of tb_207 rfl
theorem bk_207_452 : am_bk 3391714 452 = some [.goto 1704] := am_bk_of tb_207 rfl
theorem bk_207_455 : am_bk 3391714 455 = some [.aload 1, .aload 0, .iload 4, .iconst 1, .iadd, .iaload, .aload 3, .invokestatic 3096711, .istore 5, .aload 2, .aload 0, .iload 4, .iconst 1, .iadd, .iaload, .invokevirtual 1059908, .istore 6, .aload 2, .invokevirtual 584738, .iload 5, .if_icmp .eq 491, .iconst 0, .freturn] := am_bk_of tb_207 rfl
theorem bk_207_491 : am_bk 3391714 491 = some [.iload 5, .ifCond .ne 508, .aload 3, .iconst 0, .laload, .iload 6, .i2l, .lcmp, .ifCond .eq 508, .iconst 0, .freturn] := am_bk_of tb_207 rfl
theorem bk_207_508 : am_bk 3391714 508 = some [.goto 1704] := am_bk_of tb_207 rfl
theorem bk_207_511 : am_bk 3391714 511 = some [.aload 1, .aload 0, .iload 4, .iconst 1, .iadd, .iaload, .invokevirtual 115812, .aload 2, .aload 0, .iload 4, .iconst 1, .iadd, .iaload, .invokevirtual 1076324, .if_icmp .eq 1704, .iconst 0, .freturn] := am_bk_of tb_207 rfl
theorem bk_207_536 : am_bk 3391714 536 = some [.aload 1, .aload 0, .iload 4, .iconst 1, .iadd, .iaload, .invokevirtual 132164, .aload 2, .aload 0, .iload 4, .iconst 1, .iadd, .iaload, .invokevirtual 1092676, .if_icmp .eq 1704, .iconst 0, .freturn] := am_bk_of tb_207 rfl
theorem bk_207_561 : am_bk 3391714 561 = some [.aload 1, .aload 0, .iload 4, .iconst 1, .iadd, .iaload, .aload 0, .iload 4, .iconst 2, .iadd, .iaload, .aload 3, .invokestatic 3113129, .istore 5, .aload 2, .aload 0, .iload 4, .iconst 1, .iadd, .iaload, .aload 0, .iload 4, .iconst 2, .iadd, .iaload, .invokevirtual 1223782, .istore 6, .aload 2, .invokevirtual 584738, .iload 5, .if_icmp .eq 609, .iconst 0, .freturn] := am_bk_of tb_207 rfl
theorem bk_207_609 : am_bk 3391714 609 = some [.iload 5, .ifCond .ne 626, .aload 3, .iconst 0, .laload, .iload 6, .i2l, .lcmp, .ifCond .eq 626, .iconst 0, .freturn] := am_bk_of tb_207 rfl
theorem bk_207_626 : am_bk 3391714 626 = some [.goto 1704] := am_bk_of tb_207 rfl
theorem bk_207_629 : am_bk 3391714 629 = some [.aload 1, .aload 0, .iload 4, .iconst 1, .iadd, .iaload, .aload 3, .invokestatic 3129479, .istore 5, .aload 2, .aload 0, .iload 4, .iconst 1, .iadd, .iaload, .invokevirtual 1240132, .istore 6, .aload 2, .invokevirtual 584738, .iload 5, .if_icmp .eq 665, .iconst 0, .freturn] := am_bk_of tb_207 rfl
theorem bk_207_665 : am_bk 3391714 665 = some [.iload 5, .ifCond .ne 682, .aload 3, .iconst 0, .laload, .iload 6, .i2l, .lcmp, .ifCond .eq 682, .iconst 0, .freturn] := am_bk_of tb_207 rfl
theorem bk_207_682 : am_bk 3391714 682 = some [.goto 1704] := am_bk_of tb_207 rfl
theorem bk_207_685 : am_bk 3391714 685 = some [.aload 1, .aload 0, .iload 4, .iconst 1, .iadd, .iaload, .aload 3, .invokestatic 3145863, .istore 5, .aload 2, .aload 0, .iload 4, .iconst 1, .iadd, .iaload, .invokevirtual 1256516, .istore 6, .aload 2, .invokevirtual 584738, .iload 5, .if_icmp .eq 721, .iconst 0, .freturn] := am_bk_of tb_207 rfl
theorem bk_207_721 : am_bk 3391714 721 = some [.iload 5, .ifCond .ne 738, .aload 3, .iconst 0, .laload, .iload 6, .i2l, .lcmp, .ifCond .eq 738, .iconst 0, .freturn] := am_bk_of tb_207 rfl
theorem bk_207_738 : am_bk 3391714 738 = some [.goto 1704] := am_bk_of tb_207 rfl
theorem bk_207_741 : am_bk 3391714 741 = some [.aload 1, .aload 0, .iload 4, .iconst 1, .iadd, .iaload, .aload 3, .invokestatic 3162247, .istore 5, .aload 2, .aload 0, .iload 4, .iconst 1, .iadd, .iaload, .invokevirtual 1289284, .istore 6, .aload 2, .invokevirtual 584738, .iload 5, .if_icmp .eq 777, .iconst 0, .freturn] := am_bk_of tb_207 rfl
theorem bk_207_777 : am_bk 3391714 777 = some [.iload 5, .ifCond .ne 794, .aload 3, .iconst 0, .laload, .iload 6, .i2l, .lcmp, .ifCond .eq 794, .iconst 0, .freturn] := am_bk_of tb_207 rfl
theorem bk_207_794 : am_bk 3391714 794 = some [.goto 1704] := am_bk_of tb_207 rfl
theorem bk_207_797 : am_bk 3391714 797 = some [.aload 1, .aload 0, .iload 4, .iconst 1, .iadd, .iaload, .aload 0, .iload 4, .iconst 2, .iadd, .iaload, .aload 3, .invokestatic 3178665, .istore 5, .aload 2, .aload 0, .iload 4, .iconst 1, .iadd, .iaload, .aload 0, .iload 4, .iconst 2, .iadd, .iaload, .invokevirtual 1322086, .istore 6, .aload 2, .invokevirtual 584738, .iload 5, .if_icmp .eq 845, .iconst 0, .freturn] := am_bk_of tb_207 rfl
theorem bk_207_845 : am_bk 3391714 845 = some [.iload 5, .ifCond .ne 862, .aload 3, .iconst 0, .laload, .iload 6, .i2l, .lcmp, .ifCond .eq 862, .iconst 0, .freturn] := am_bk_of tb_207 rfl
theorem bk_207_862 : am_bk 3391714 862 = some [.goto 1704] := am_bk_of tb_207 rfl
theorem bk_207_865 : am_bk 3391714 865 = some [.aload 1, .aload 0, .iload 4, .iconst 1, .iadd, .iaload, .aload 0, .iload 4, .iconst 2, .iadd, .iaload, .aload 0, .iload 4, .iconst 3, .iadd, .iaload, .ifCond .eq 891, .iconst 1, .goto 892] := am_bk_of tb_207 rfl
theorem bk_207_891 : am_bk 3391714 891 = some [.iconst 0, .goto_w 892] := am_bk_of tb_207 rfl
theorem bk_207_892 : am_bk 3391714 892 = some [.aload 3, .invokestatic 3195083, .istore 5, .aload 2, .aload 0, .iload 4, .iconst 1, .iadd, .iaload, .aload 0, .iload 4, .iconst 2, .iadd, .iaload, .aload 0, .iload 4, .iconst 3, .iadd, .iaload, .ifCond .eq 924, .iconst 1, .goto 925] := am_bk_of tb_207 rfl
theorem bk_207_924 : am_bk 3391714 924 = some [.iconst 0, .goto_w 925] := am_bk_of tb_207 rfl
theorem bk_207_925 : am_bk 3391714 925 = some [.invokevirtual 1338504, .istore 6, .aload 2, .invokevirtual 584738, .iload 5, .if_icmp .eq 941, .iconst 0, .freturn] := am_bk_of tb_207 rfl
theorem bk_207_941 : am_bk 3391714 941 = some [.iload 5, .ifCond .ne 958, .aload 3, .iconst 0, .laload, .iload 6, .i2l, .lcmp, .ifCond .eq 958, .iconst 0, .freturn] := am_bk_of tb_207 rfl
theorem bk_207_958 : am_bk 3391714 958 = some [.goto 1704] := am_bk_of tb_207 rfl
theorem bk_207_961 : am_bk 3391714 961 = some [.aload 1, .aload 0, .iload 4, .iconst 1, .iadd, .iaload, .aload 0, .iload 4, .iconst 2, .iadd, .iaload, .aload 0, .iload 4, .iconst 3, .iadd, .iaload, .aload 3, .invokestatic 3211467, .istore 5, .aload 2, .aload 0, .iload 4, .iconst 1, .iadd, .iaload, .aload 0, .iload 4, .iconst 2, .iadd, .iaload, .aload 0, .iload 4, .iconst 3, .iadd, .iaload, .invokevirtual 1387656, .istore 6, .aload 2, .invokevirtual 584738, .iload 5, .if_icmp .eq 1021, .iconst 0, .freturn] := am_bk_of tb_207 rfl
theorem bk_207_1021 : am_bk 3391714 1021 = some [.iload 5, .ifCond .ne 1038, .aload 3, .iconst 0, .laload, .iload 6, .i2l, .lcmp, .ifCond .eq 1038, .iconst 0, .freturn] := am_bk_of tb_207 rfl
theorem bk_207_1038 : am_bk 3391714 1038 = some [.goto 1704] := am_bk_of tb_207 rfl
theorem bk_207_1041 : am_bk 3391714 1041 = some [.aload 1, .aload 0, .iload 4, .iconst 1, .iadd, .iaload, .aload 0, .iload 4, .iconst 2, .iadd, .iaload, .aload 0, .iload 4, .iconst 3, .iadd, .iaload, .aload 3, .invokestatic 3227851, .istore 5, .aload 2, .aload 0, .iload 4, .iconst 1, .iadd, .iaload, .aload 0, .iload 4, .iconst 2, .iadd, .iaload, .aload 0, .iload 4, .iconst 3, .iadd, .iaload, .invokevirtual 1404040, .istore 6, .aload 2, .invokevirtual 584738, .iload 5, .if_icmp .eq 1101, .iconst 0, .freturn] := am_bk_of tb_207 rfl
theorem bk_207_1101 : am_bk 3391714 1101 = some [.iload 5, .ifCond .ne 1118, .aload 3, .iconst 0, .laload, .iload 6, .i2l, .lcmp, .ifCond .eq 1118, .iconst 0, .freturn] := am_bk_of tb_207 rfl
theorem bk_207_1118 : am_bk 3391714 1118 = some [.goto 1704] := am_bk_of tb_207 rfl
theorem bk_207_1121 : am_bk 3391714 1121 = some [.aload 1, .aload 0, .iload 4, .iconst 1, .iadd, .iaload, .aload 0, .iload 4, .iconst 2, .iadd, .iaload, .aload 0, .iload 4, .iconst 3, .iadd, .iaload, .aload 3, .invokestatic 3244235, .istore 5, .aload 2, .aload 0, .iload 4, .iconst 1, .iadd, .iaload, .aload 0, .iload 4, .iconst 2, .iadd, .iaload, .aload 0, .iload 4, .iconst 3, .iadd, .iaload, .invokevirtual 1420424, .istore 6, .aload 2, .invokevirtual 584738, .iload 5, .if_icmp .eq 1181, .iconst 0, .freturn] := am_bk_of tb_207 rfl
theorem bk_207_1181 : am_bk 3391714 1181 = some [.iload 5, .ifCond .ne 1198, .aload 3, .iconst 0, .laload, .iload 6, .i2l, .lcmp, .ifCond .eq 1198, .iconst 0, .freturn] := am_bk_of tb_207 rfl
theorem bk_207_1198 : am_bk 3391714 1198 = some [.goto 1704] := am_bk_of tb_207 rfl
theorem bk_207_1201 : am_bk 3391714 1201 = some [.aload 1, .aload 0, .iload 4, .iconst 1, .iadd, .iaload, .aload 3, .invokestatic 3260551, .istore 5, .aload 2, .aload 0, .iload 4, .iconst 1, .iadd, .iaload, .invokevirtual 1436772, .istore 6, .aload 2, .invokevirtual 584738, .iload 5, .if_icmp .eq 1237, .iconst 0, .freturn] := am_bk_of tb_207 rfl
theorem bk_207_1237 : am_bk 3391714 1237 = some [.iload 5, .ifCond .ne 1254, .aload 3, .iconst 0, .laload, .iload 6, .i2l, .lcmp, .ifCond .eq 1254, .iconst 0, .freturn] := am_bk_of tb_207 rfl
theorem bk_207_1254 : am_bk 3391714 1254 = some [.goto 1704] := am_bk_of tb_207 rfl
theorem bk_207_1257 : am_bk 3391714 1257 = some [.aload 1, .aload 0, .iload 4, .iconst 1, .iadd, .iaload, .aload 3, .invokestatic 3276935, .istore 5, .aload 2, .aload 0, .iload 4, .iconst 1, .iadd, .iaload, .invokevirtual 1584260, .istore 6, .aload 2, .invokevirtual 584738, .iload 5, .if_icmp .eq 1293, .iconst 0, .freturn] := am_bk_of tb_207 rfl
theorem bk_207_1293 : am_bk 3391714 1293 = some [.iload 5, .ifCond .ne 1317, .aload 3, .iconst 0, .laload, .iload 6, .ifCond .eq 1310, .jsr_w 1, .goto 1311] := am_bk_of tb_207 rfl
theorem bk_207_1310 : am_bk 3391714 1310 = some [.jsr_w 0, .goto_w 1311] := am_bk_of tb_207 rfl
theorem bk_207_1311 : am_bk 3391714 1311 = some [.lcmp, .ifCond .eq 1317, .iconst 0, .freturn] := am_bk_of tb_207 rfl
theorem bk_207_1317 : am_bk 3391714 1317 = some [.goto 1704] := am_bk_of tb_207 rfl
theorem bk_207_1320 : am_bk 3391714 1320 = some [.aload 1, .aload 0, .iload 4, .iconst 1, .iadd, .iaload, .aload 3, .invokestatic 3293319, .istore 5, .aload 2, .aload 0, .iload 4, .iconst 1, .iadd, .iaload, .invokevirtual 1715300, .istore 6, .aload 2, .invokevirtual 584738, .iload 5, .if_icmp .eq 1356, .iconst 0, .freturn] := am_bk_of tb_207 rfl
theorem bk_207_1356 : am_bk 3391714 1356 = some [.iload 5, .ifCond .ne 1373, .aload 3, .iconst 0, .laload, .iload 6, .i2l, .lcmp, .ifCond .eq 1373, .iconst 0, .freturn] := am_bk_of tb_207 rfl
theorem bk_207_1373 : am_bk 3391714 1373 = some [.goto 1704] := am_bk_of tb_207 rfl
theorem bk_207_1376 : am_bk 3391714 1376 = some [.aload 1, .aload 0, .iload 4, .iconst 1, .iadd, .iaload, .aload 3, .invokestatic 3309703, .istore 5, .aload 2, .aload 0, .iload 4, .iconst 1, .iadd, .iaload, .invokevirtual 1731684, .istore 6, .aload 2, .invokevirtual 584738, .iload 5, .if_icmp .eq 1412, .iconst 0, .freturn] := am_bk_of tb_207 rfl
theorem bk_207_1412 : am_bk 3391714 1412 = some [.iload 5, .ifCond .ne 1429, .aload 3, .iconst 0, .laload, .iload 6, .i2l, .lcmp, .ifCond .eq 1429, .iconst 0, .freturn] := am_bk_of tb_207 rfl
theorem bk_207_1429 : am_bk 3391714 1429 = some [.goto 1704] := am_bk_of tb_207 rfl
theorem bk_207_1432 : am_bk 3391714 1432 = some [.aload 1, .aload 0, .iload 4, .iconst 1, .iadd, .iaload, .aload 3, .invokestatic 3326087, .istore 5, .aload 2, .aload 0, .iload 4, .iconst 1, .iadd, .iaload, .invokevirtual 1748036, .istore 6, .aload 2, .invokevirtual 584738, .iload 5, .if_icmp .eq 1468, .iconst 0, .freturn] := am_bk_of tb_207 rfl
theorem bk_207_1468 : am_bk 3391714 1468 = some [.iload 5, .ifCond .ne 1485, .aload 3, .iconst 0, .laload, .iload 6, .i2l, .lcmp, .ifCond .eq 1485, .iconst 0, .freturn] := am_bk_of tb_207 rfl
theorem bk_207_1485 : am_bk 3391714 1485 = some [.goto 1704] := am_bk_of tb_207 rfl
theorem bk_207_1488 : am_bk 3391714 1488 = some [.aload 1, .aload 0, .iload 4, .iconst 1, .iadd, .iaload, .aload 3, .invokestatic 3342471, .istore 5, .aload 2, .aload 0, .iload 4, .iconst 1, .iadd, .iaload, .invokevirtual 1764420, .istore 6, .aload 2, .invokevirtual 584738, .iload 5, .if_icmp .eq 1524, .iconst 0, .freturn] := am_bk_of tb_207 rfl
theorem bk_207_1524 : am_bk 3391714 1524 = some [.iload 5, .ifCond .ne 1541, .aload 3, .iconst 0, .laload, .iload 6, .i2l, .lcmp, .ifCond .eq 1541, .iconst 0, .freturn] := am_bk_of tb_207 rfl
theorem bk_207_1541 : am_bk 3391714 1541 = some [.goto 1704] := am_bk_of tb_207 rfl
theorem bk_207_1544 : am_bk 3391714 1544 = some [.aload 1, .aload 0, .iload 4, .iconst 1, .iadd, .iaload, .aload 0, .iload 4, .iconst 2, .iadd, .iaload, .aload 0, .iload 4, .iconst 3, .iadd, .iaload, .aload 3, .invokestatic 3358923, .istore 5, .aload 2, .aload 0, .iload 4, .iconst 1, .iadd, .iaload, .aload 0, .iload 4, .iconst 2, .iadd, .iaload, .aload 0, .iload 4, .iconst 3, .iadd, .iaload, .invokevirtual 1797288, .istore 6, .aload 2, .invokevirtual 584738, .iload 5, .if_icmp .eq 1604, .iconst 0, .freturn] := am_bk_of tb_207 rfl
theorem bk_207_1604 : am_bk 3391714 1604 = some [.iload 5, .ifCond .ne 1621, .aload 3, .iconst 0, .laload, .iload 6, .i2l, .lcmp, .ifCond .eq 1621, .iconst 0, .freturn] := am_bk_of tb_207 rfl
theorem bk_207_1621 : am_bk 3391714 1621 = some [.goto 1704] := am_bk_of tb_207 rfl
theorem bk_207_1624 : am_bk 3391714 1624 = some [.aload 1, .aload 0, .iload 4, .iconst 1, .iadd, .iaload, .aload 0, .iload 4, .iconst 2, .iadd, .iaload, .aload 0, .iload 4, .iconst 3, .iadd, .iaload, .aload 3, .invokestatic 3375307, .istore 5, .aload 2, .aload 0, .iload 4, .iconst 1, .iadd, .iaload, .aload 0, .iload 4, .iconst 2, .iadd, .iaload, .aload 0, .iload 4, .iconst 3, .iadd, .iaload, .invokevirtual 1813672, .istore 6, .aload 2, .invokevirtual 584738, .iload 5, .if_icmp .eq 1684, .iconst 0, .freturn] := am_bk_of tb_207 rfl
theorem bk_207_1684 : am_bk 3391714 1684 = some [.iload 5, .ifCond .ne 1701, .aload 3, .iconst 0, .laload, .iload 6, .i2l, .lcmp, .ifCond .eq 1701, .iconst 0, .freturn] := am_bk_of tb_207 rfl
theorem bk_207_1701 : am_bk 3391714 1701 = some [.goto 1704] := am_bk_of tb_207 rfl
theorem bk_207_1704 : am_bk 3391714 1704 = some [.iinc 4 4, .goto 23] := am_bk_of tb_207 rfl
theorem bk_207_1710 : am_bk 3391714 1710 = some [.iconst 1, .freturn] := am_bk_of tb_207 rfl
