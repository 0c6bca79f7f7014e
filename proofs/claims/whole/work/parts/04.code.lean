/-! The methods as texts of the small machine: by program out of the decode rows. tx_N: the text of method N (its name stands behind). -/
-- 0: WellPumps$Chain.follow(I)V
def s0_0 : List Ins := (0, .ldc 0) :: (2, .istore 2) :: (2, .jsr 2) :: []
def s0_22 : List Ins := (2, .aload 0) :: (1, .checkcast 1) :: (2, .iload 2) :: (2, .aload 0) :: (1, .fload 0) :: (1, .getfield 653) :: (1, .iastore) :: (0, .ldc 0) :: (2, .istore 3) :: (2, .jsr 37) :: []
def s0_2 : List Ins := (2, .iload 2) :: (2, .aload 0) :: (1, .fload 0) :: (1, .getfield 640) :: (2, .if_icmp .gt 80) :: (2, .aload 0) :: (1, .fload 0) :: (2, .iload 2) :: (2, .iload 1) :: (2, .invokevirtual 34995) :: s0_22
def s0_67 : List Ins := (1, .iastore) :: (2, .iinc 3 1) :: (2, .goto 37) :: []
def s0_37 : List Ins := (2, .iload 3) :: (2, .aload 0) :: (1, .fload 0) :: (1, .getfield 642) :: (2, .if_icmp .ge 74) :: (2, .aload 0) :: (1, .checkcast 2) :: (2, .iload 3) :: (0, .ldc 8) :: (0, .imul) :: (2, .iload 2) :: (0, .iadd) :: (2, .aload 0) :: (1, .fload 0) :: (2, .iload 3) :: (2, .iload 2) :: (2, .invokevirtual 36019) :: s0_67
def s0_74 : List Ins := (2, .iinc 2 1) :: (2, .goto 2) :: []
def s0_84 : List Ins := (2, .return_) :: []
def s0_80 : List Ins := (2, .aload 0) :: (2, .invokevirtual 529) :: s0_84
def tx_0 : Tx := [(0, 3, s0_0), (2, 7, s0_2), (37, 15, s0_37), (74, 7, s0_74), (80, 1, s0_80)]
-- 1: WellPumps$Chain.shape()V
def s1_18 : List Ins := (2, .aload 0) :: (1, .checkcast 3) :: (0, .ldc 0) :: (0, .ldc2_w 1) :: (1, .lastore) :: (0, .ldc 0) :: (2, .istore 2) :: (2, .jsr 27) :: []
def s1_0 : List Ins := (2, .aload 0) :: (1, .fload 0) :: (1, .getfield 640) :: (0, .ldc 1) :: (0, .iadd) :: (2, .istore 1) :: (2, .aload 0) :: (1, .checkcast 4) :: (0, .ldc2_w 0) :: (2, .invokevirtual 118786) :: s1_18
def s1_27 : List Ins := (2, .iload 2) :: (2, .iload 1) :: (2, .if_icmp .ge 50) :: (2, .aload 0) :: (1, .checkcast 4) :: (2, .iload 2) :: (0, .ldc 8) :: (0, .imul) :: (2, .iload 2) :: (0, .iadd) :: (0, .ldc2_w 1) :: (1, .lastore) :: (2, .iinc 2 1) :: (2, .goto 27) :: []
def s1_50 : List Ins := (0, .ldc 1) :: (2, .istore 2) :: (2, .jsr 52) :: []
def s1_52 : List Ins := (2, .iload 2) :: (2, .iload 1) :: (2, .if_icmp .gt 168) :: (0, .ldc2_w 0) :: (2, .lstore 3) :: (0, .ldc 0) :: (2, .istore 5) :: (2, .jsr 62) :: []
def s1_74 : List Ins := (2, .lload 3) :: (2, .aload 0) :: (1, .checkcast 5) :: (2, .iload 5) :: (0, .ldc 8) :: (0, .imul) :: (2, .iload 5) :: (0, .iadd) :: (1, .laload) :: (0, .ladd) :: (2, .lstore 3) :: (2, .iinc 5 1) :: (2, .goto 62) :: []
def s1_62 : List Ins := (2, .iload 5) :: (2, .iload 1) :: (2, .if_icmp .ge 96) :: (2, .aload 0) :: (2, .iload 5) :: (2, .invokevirtual 1042) :: s1_74
def s1_96 : List Ins := (2, .aload 0) :: (1, .checkcast 3) :: (2, .iload 2) :: (2, .lload 3) :: (0, .lneg) :: (2, .iload 2) :: (0, .i2l) :: (0, .ldiv) :: (1, .lastore) :: (2, .aload 0) :: (1, .checkcast 5) :: (0, .ldc 0) :: (2, .aload 0) :: (1, .checkcast 4) :: (0, .ldc 0) :: (2, .aload 0) :: (1, .checkcast 4) :: (1, .arraylength) :: (1, .nop) :: (0, .ldc 0) :: (2, .istore 5) :: (2, .jsr 128) :: []
def s1_128 : List Ins := (2, .iload 5) :: (2, .iload 1) :: (2, .if_icmp .ge 162) :: (2, .aload 0) :: (1, .checkcast 4) :: (2, .iload 5) :: (0, .ldc 8) :: (0, .imul) :: (2, .iload 5) :: (0, .iadd) :: (0, .dup2) :: (1, .laload) :: (2, .aload 0) :: (1, .checkcast 3) :: (2, .iload 2) :: (1, .laload) :: (0, .ladd) :: (1, .lastore) :: (2, .iinc 5 1) :: (2, .goto 128) :: []
def s1_162 : List Ins := (2, .iinc 2 1) :: (2, .goto 52) :: []
def s1_168 : List Ins := (2, .return_) :: []
def tx_1 : Tx := [(0, 1, s1_0), (27, 7, s1_27), (50, 3, s1_50), (52, 7, s1_52), (62, 47, s1_62), (96, 15, s1_96), (128, 39, s1_128), (162, 7, s1_162), (168, 0, s1_168)]
-- 2: WellPumps$Chain.multiplyRow(I)V
def s2_0 : List Ins := (0, .ldc 0) :: (2, .istore 2) :: (2, .jsr 2) :: []
def s2_2 : List Ins := (2, .iload 2) :: (2, .aload 0) :: (1, .fload 0) :: (1, .getfield 640) :: (2, .if_icmp .gt 88) :: (0, .ldc2_w 0) :: (2, .lstore 3) :: (0, .ldc 0) :: (2, .istore 5) :: (2, .jsr 18) :: []
def s2_55 : List Ins := (0, .ldc 8) :: (0, .imul) :: (2, .iload 2) :: (0, .iadd) :: (1, .laload) :: (0, .lmul) :: (0, .ladd) :: (2, .lstore 3) :: (2, .iinc 5 1) :: (2, .goto 18) :: []
def s2_18 : List Ins := (2, .iload 5) :: (0, .ldc 4) :: (2, .if_icmp .ge 70) :: (2, .lload 3) :: (2, .aload 0) :: (1, .fload 0) :: (1, .checkcast 647) :: (2, .iload 5) :: (1, .iaload) :: (0, .i2l) :: (2, .aload 0) :: (1, .checkcast 4) :: (2, .aload 0) :: (1, .fload 0) :: (2, .aload 0) :: (1, .checkcast 1) :: (2, .iload 1) :: (1, .iaload) :: (2, .iload 5) :: (2, .invokevirtual 37043) :: s2_55
def s2_70 : List Ins := (2, .aload 0) :: (1, .checkcast 5) :: (2, .iload 1) :: (0, .ldc 8) :: (0, .imul) :: (2, .iload 2) :: (0, .iadd) :: (2, .lload 3) :: (1, .lastore) :: (2, .iinc 2 1) :: (2, .goto 2) :: []
def s2_88 : List Ins := (2, .return_) :: []
def tx_2 : Tx := [(0, 3, s2_0), (2, 7, s2_2), (18, 47, s2_18), (70, 15, s2_70), (88, 0, s2_88)]
-- 3: WellPumps$Chain.settle(II)V
def s3_0 : List Ins := (2, .aload 0) :: (2, .iload 1) :: (0, .i2l) :: (1, .dstore 10) :: (2, .aload 0) :: (2, .iload 2) :: (0, .i2l) :: (2, .aload 0) :: (1, .fload 0) :: (1, .getfield 646) :: (0, .i2l) :: (0, .lmul) :: (1, .dstore 11) :: (0, .ldc2_w 0) :: (2, .lstore 3) :: (0, .ldc2_w 1) :: (2, .lstore 5) :: (0, .ldc 0) :: (2, .istore 7) :: (2, .jsr 29) :: []
def s3_29 : List Ins := (2, .iload 7) :: (2, .aload 0) :: (1, .fload 0) :: (1, .getfield 640) :: (0, .ldc 1) :: (0, .iadd) :: (2, .if_icmp .gt 76) :: (2, .lload 3) :: (2, .aload 0) :: (1, .dload 11) :: (0, .lmul) :: (2, .aload 0) :: (1, .checkcast 3) :: (2, .iload 7) :: (1, .laload) :: (2, .lload 5) :: (0, .lmul) :: (0, .ladd) :: (2, .lstore 3) :: (2, .lload 5) :: (2, .aload 0) :: (1, .dload 10) :: (0, .lmul) :: (2, .lstore 5) :: (2, .iinc 7 1) :: (2, .goto 29) :: []
def s3_76 : List Ins := (2, .aload 0) :: (2, .lload 3) :: (1, .dstore 9) :: (2, .return_) :: []
def tx_3 : Tx := [(0, 7, s3_0), (29, 169, s3_29), (76, 9, s3_76)]
-- 4: WellPumps$Chain.solve(I)V
def s4_0 : List Ins := (2, .aload 0) :: (1, .fload 0) :: (1, .getfield 640) :: (0, .ldc 1) :: (0, .iadd) :: (2, .istore 2) :: (2, .iload 1) :: (0, .ldc 8) :: (0, .imul) :: (2, .istore 3) :: (0, .ldc 0) :: (2, .istore 4) :: (2, .jsr 18) :: []
def s4_18 : List Ins := (2, .iload 4) :: (2, .iload 2) :: (2, .if_icmp .ge 57) :: (2, .aload 0) :: (1, .checkcast 6) :: (2, .iload 4) :: (2, .aload 0) :: (1, .checkcast 2) :: (2, .iload 3) :: (2, .iload 4) :: (0, .iadd) :: (1, .iaload) :: (0, .i2l) :: (1, .lastore) :: (2, .aload 0) :: (1, .checkcast 8) :: (2, .iload 3) :: (2, .iload 4) :: (0, .iadd) :: (0, .ldc2_w 0) :: (1, .lastore) :: (2, .iinc 4 1) :: (2, .goto 18) :: []
def s4_57 : List Ins := (0, .ldc2_w 1) :: (2, .lstore 4) :: (0, .ldc 1) :: (2, .istore 6) :: (2, .jsr 63) :: []
def s4_63 : List Ins := (2, .iload 6) :: (2, .iload 2) :: (2, .if_icmp .gt 193) :: (0, .ldc 0) :: (2, .istore 7) :: (2, .jsr 72) :: []
def s4_137 : List Ins := (2, .aload 0) :: (1, .checkcast 3) :: (2, .iload 6) :: (1, .laload) :: (2, .aload 0) :: (1, .checkcast 2) :: (2, .iload 3) :: (2, .iload 7) :: (0, .iadd) :: (1, .iaload) :: (0, .i2l) :: (0, .lmul) :: (0, .ladd) :: (1, .lastore) :: (2, .iinc 7 1) :: (2, .goto 72) :: []
def s4_72 : List Ins := (2, .iload 7) :: (2, .iload 2) :: (2, .if_icmp .ge 163) :: (2, .aload 0) :: (1, .checkcast 8) :: (2, .iload 3) :: (2, .iload 7) :: (0, .iadd) :: (2, .aload 0) :: (1, .checkcast 8) :: (2, .iload 3) :: (2, .iload 7) :: (0, .iadd) :: (1, .laload) :: (2, .aload 0) :: (1, .dload 11) :: (0, .lmul) :: (2, .lload 4) :: (2, .aload 0) :: (1, .checkcast 6) :: (2, .iload 7) :: (1, .laload) :: (0, .lmul) :: (0, .ladd) :: (1, .lastore) :: (2, .aload 0) :: (1, .checkcast 7) :: (2, .iload 7) :: (2, .aload 0) :: (1, .fload 0) :: (2, .aload 0) :: (1, .checkcast 6) :: (0, .ldc 0) :: (2, .aload 0) :: (1, .checkcast 1) :: (2, .iload 7) :: (1, .iaload) :: (2, .invokevirtual 38068) :: s4_137
def s4_163 : List Ins := (2, .aload 0) :: (1, .checkcast 7) :: (0, .ldc 0) :: (2, .aload 0) :: (1, .checkcast 6) :: (0, .ldc 0) :: (0, .ldc 8) :: (1, .nop) :: (2, .lload 4) :: (2, .aload 0) :: (1, .dload 10) :: (0, .lmul) :: (2, .lstore 4) :: (2, .iinc 6 1) :: (2, .goto 63) :: []
def s4_193 : List Ins := (0, .ldc 0) :: (2, .istore 6) :: (2, .jsr 196) :: []
def s4_196 : List Ins := (2, .iload 6) :: (2, .iload 2) :: (2, .if_icmp .ge 224) :: (2, .aload 0) :: (1, .checkcast 8) :: (2, .iload 3) :: (2, .iload 6) :: (0, .iadd) :: (0, .dup2) :: (1, .laload) :: (2, .aload 0) :: (1, .dload 11) :: (0, .lmul) :: (1, .lastore) :: (2, .iinc 6 1) :: (2, .goto 196) :: []
def s4_224 : List Ins := (2, .return_) :: []
def tx_4 : Tx := [(0, 3, s4_0), (18, 29, s4_18), (57, 13, s4_57), (63, 93, s4_63), (72, 221, s4_72), (163, 93, s4_163), (193, 13, s4_193), (196, 77, s4_196), (224, 0, s4_224)]
-- 5: WellPumps$Chain.onceElse(III)J
def s5_32 : List Ins := (0, .lmul) :: (0, .ladd) :: (2, .lreturn) :: []
def s5_0 : List Ins := (2, .iload 2) :: (0, .i2l) :: (2, .aload 0) :: (1, .dload 9) :: (0, .lmul) :: (2, .aload 0) :: (1, .dload 11) :: (0, .lmul) :: (2, .aload 0) :: (1, .dload 10) :: (2, .aload 0) :: (1, .fload 0) :: (2, .aload 0) :: (1, .checkcast 8) :: (2, .iload 1) :: (0, .ldc 8) :: (0, .imul) :: (2, .iload 3) :: (2, .invokevirtual 38068) :: s5_32
def tx_5 : Tx := [(0, 15, s5_0)]
-- 6: WellPumps$Choice.answerAt(II)I
def s6_9 : List Ins := (2, .aload 0) :: (1, .checkcast 71) :: (2, .iload 2) :: (1, .iaload) :: (2, .ireturn) :: []
def s6_5 : List Ins := (2, .aload 0) :: (2, .invokevirtual 4641) :: s6_9
def s6_0 : List Ins := (2, .aload 0) :: (2, .iload 1) :: (2, .invokevirtual 3618) :: s6_5
def tx_6 : Tx := [(0, 7, s6_0)]
-- 7: WellPumps$Choice.offerTo(I)V
def s7_0 : List Ins := (2, .aload 0) :: (0, .ldc 4) :: (1, .putfield 66) :: (0, .ldc 0) :: (2, .istore 2) :: (2, .jsr 7) :: []
def s7_27 : List Ins := (0, .ldc 0) :: (2, .istore 3) :: (2, .jsr 29) :: []
def s7_7 : List Ins := (2, .iload 2) :: (2, .aload 0) :: (1, .fload 64) :: (1, .getfield 640) :: (2, .if_icmp .gt 102) :: (2, .aload 0) :: (1, .fload 64) :: (2, .iload 2) :: (0, .ldc 0) :: (2, .invokevirtual 34483) :: s7_27
def s7_71 : List Ins := (1, .iastore) :: (2, .aload 0) :: (1, .checkcast 68) :: (2, .iload 2) :: (0, .ldc 64) :: (0, .imul) :: (2, .iload 3) :: (0, .iadd) :: (2, .aload 0) :: (1, .fload 64) :: (1, .getfield 653) :: (1, .iastore) :: (2, .iinc 3 1) :: (2, .goto 29) :: []
def s7_52 : List Ins := (2, .aload 0) :: (1, .checkcast 67) :: (2, .iload 2) :: (0, .ldc 64) :: (0, .imul) :: (2, .iload 3) :: (0, .iadd) :: (2, .aload 0) :: (1, .fload 64) :: (2, .iload 1) :: (2, .iload 2) :: (2, .invokevirtual 36019) :: s7_71
def s7_29 : List Ins := (2, .iload 3) :: (0, .ldc 4) :: (2, .if_icmp .ge 96) :: (2, .aload 0) :: (1, .fload 64) :: (1, .checkcast 651) :: (2, .iload 1) :: (2, .iload 3) :: (1, .iastore) :: (2, .aload 0) :: (1, .fload 64) :: (2, .iload 2) :: (2, .invokevirtual 35506) :: s7_52
def s7_96 : List Ins := (2, .iinc 2 1) :: (2, .goto 7) :: []
def s7_102 : List Ins := (2, .return_) :: []
def tx_7 : Tx := [(0, 3, s7_0), (7, 7, s7_7), (29, 15, s7_29), (96, 7, s7_96), (102, 0, s7_102)]
-- 8: WellPumps$Choice.offerAll()V
def s8_8 : List Ins := (1, .putfield 66) :: (0, .ldc 0) :: (2, .istore 1) :: (2, .jsr 13) :: []
def s8_0 : List Ins := (2, .aload 0) :: (2, .aload 0) :: (1, .fload 64) :: (2, .invokevirtual 40113) :: s8_8
def s8_13 : List Ins := (2, .iload 1) :: (2, .aload 0) :: (1, .fload 64) :: (1, .getfield 640) :: (2, .if_icmp .gt 128) :: (0, .ldc 0) :: (2, .istore 2) :: (2, .jsr 26) :: []
def s8_50 : List Ins := (0, .ldc 0) :: (2, .istore 3) :: (0, .ldc 0) :: (2, .istore 4) :: (2, .jsr 55) :: []
def s8_42 : List Ins := (2, .aload 0) :: (1, .fload 64) :: (2, .iload 1) :: (2, .invokevirtual 35506) :: s8_50
def s8_26 : List Ins := (2, .iload 2) :: (2, .aload 0) :: (1, .getfield 66) :: (2, .if_icmp .ge 122) :: (2, .aload 0) :: (1, .fload 64) :: (2, .iload 2) :: (2, .invokevirtual 38578) :: s8_42
def s8_78 : List Ins := (0, .iadd) :: (2, .istore 3) :: (2, .iinc 4 1) :: (2, .goto 55) :: []
def s8_55 : List Ins := (2, .iload 4) :: (2, .aload 0) :: (1, .fload 64) :: (1, .getfield 642) :: (2, .if_icmp .ge 86) :: (2, .iload 3) :: (2, .aload 0) :: (1, .fload 64) :: (2, .iload 4) :: (2, .iload 1) :: (2, .invokevirtual 36019) :: s8_78
def s8_86 : List Ins := (2, .aload 0) :: (1, .checkcast 67) :: (2, .iload 1) :: (0, .ldc 64) :: (0, .imul) :: (2, .iload 2) :: (0, .iadd) :: (2, .iload 3) :: (1, .iastore) :: (2, .aload 0) :: (1, .checkcast 68) :: (2, .iload 1) :: (0, .ldc 64) :: (0, .imul) :: (2, .iload 2) :: (0, .iadd) :: (2, .aload 0) :: (1, .fload 64) :: (1, .getfield 653) :: (1, .iastore) :: (2, .iinc 2 1) :: (2, .goto 26) :: []
def s8_122 : List Ins := (2, .iinc 1 1) :: (2, .goto 13) :: []
def s8_128 : List Ins := (2, .return_) :: []
def tx_8 : Tx := [(0, 1, s8_0), (13, 3, s8_13), (26, 7, s8_26), (55, 31, s8_55), (86, 15, s8_86), (122, 3, s8_122), (128, 0, s8_128)]
-- 9: WellPumps$Choice.settle()V
def s9_8 : List Ins := (0, .ldc 1) :: (2, .istore 1) :: (0, .ldc 0) :: (2, .istore 2) :: (2, .jsr 12) :: []
def s9_0 : List Ins := (2, .aload 0) :: (1, .checkcast 71) :: (0, .ldc 0) :: (2, .invokevirtual 119298) :: s9_8
def s9_31 : List Ins := (2, .istore 1) :: (2, .iinc 2 1) :: (2, .goto 12) :: []
def s9_26 : List Ins := (2, .aload 0) :: (0, .ldc 0) :: (2, .invokevirtual 5666) :: s9_31
def s9_12 : List Ins := (2, .iload 1) :: (2, .ifCond .eq 38) :: (2, .iload 2) :: (0, .ldc 100000) :: (2, .if_icmp .ge 38) :: (2, .aload 0) :: (2, .invokevirtual 5153) :: s9_26
def s9_43 : List Ins := (0, .pop) :: (2, .return_) :: []
def s9_38 : List Ins := (2, .aload 0) :: (0, .ldc 1) :: (2, .invokevirtual 5666) :: s9_43
def tx_9 : Tx := [(0, 1, s9_0), (12, 7, s9_12), (38, 1, s9_38)]
-- 10: WellPumps$Choice.evaluate()V
def s10_0 : List Ins := (0, .ldc 0) :: (2, .istore 1) :: (2, .jsr 2) :: []
def s10_2 : List Ins := (2, .iload 1) :: (2, .aload 0) :: (1, .fload 64) :: (1, .getfield 640) :: (2, .if_icmp .gt 61) :: (2, .iload 1) :: (0, .ldc 64) :: (0, .imul) :: (2, .aload 0) :: (1, .checkcast 71) :: (2, .iload 1) :: (1, .iaload) :: (0, .iadd) :: (2, .istore 2) :: (2, .aload 0) :: (1, .fload 65) :: (1, .checkcast 1) :: (2, .iload 1) :: (2, .aload 0) :: (1, .checkcast 68) :: (2, .iload 2) :: (1, .iaload) :: (1, .iastore) :: (2, .aload 0) :: (1, .fload 65) :: (1, .checkcast 2) :: (2, .iload 1) :: (2, .aload 0) :: (1, .checkcast 67) :: (2, .iload 2) :: (1, .iaload) :: (1, .iastore) :: (2, .iinc 1 1) :: (2, .goto 2) :: []
def s10_97 : List Ins := (0, .ldc 0) :: (2, .istore 1) :: (2, .jsr 99) :: []
def s10_89 : List Ins := (2, .aload 0) :: (1, .fload 65) :: (0, .ldc 0) :: (2, .invokevirtual 2066) :: s10_97
def s10_68 : List Ins := (2, .aload 0) :: (1, .fload 65) :: (2, .aload 0) :: (1, .fload 64) :: (1, .getfield 644) :: (2, .aload 0) :: (1, .fload 64) :: (1, .getfield 645) :: (2, .invokevirtual 1555) :: s10_89
def s10_61 : List Ins := (2, .aload 0) :: (1, .fload 65) :: (2, .invokevirtual 529) :: s10_68
def s10_125 : List Ins := (1, .lastore) :: (2, .iinc 1 1) :: (2, .goto 99) :: []
def s10_99 : List Ins := (2, .iload 1) :: (2, .aload 0) :: (1, .fload 64) :: (1, .getfield 640) :: (2, .if_icmp .gt 132) :: (2, .aload 0) :: (1, .checkcast 69) :: (2, .iload 1) :: (2, .aload 0) :: (1, .fload 65) :: (0, .ldc 0) :: (0, .ldc 0) :: (2, .iload 1) :: (2, .invokevirtual 2580) :: s10_125
def s10_132 : List Ins := (2, .return_) :: []
def tx_10 : Tx := [(0, 1, s10_0), (2, 3, s10_2), (61, 1, s10_61), (99, 3, s10_99), (132, 0, s10_132)]
-- 11: WellPumps$Choice.improve(Z)Z
def s11_0 : List Ins := (0, .ldc 0) :: (2, .istore 2) :: (0, .ldc 0) :: (2, .istore 3) :: (2, .jsr 4) :: []
def s11_78 : List Ins := (2, .lload 4) :: (0, .lcmp) :: (2, .ifCond .le 88) :: (0, .ldc 1) :: (2, .goto 89) :: []
def s11_54 : List Ins := (2, .istore 6) :: (2, .aload 0) :: (2, .iload 3) :: (2, .iload 6) :: (2, .aload 0) :: (1, .fload 65) :: (1, .dload 9) :: (2, .aload 0) :: (1, .fload 65) :: (1, .dload 11) :: (0, .lmul) :: (2, .invokevirtual 6692) :: s11_78
def s11_4 : List Ins := (2, .iload 3) :: (2, .aload 0) :: (1, .fload 64) :: (1, .getfield 640) :: (2, .if_icmp .gt 119) :: (2, .aload 0) :: (1, .fload 65) :: (1, .checkcast 8) :: (2, .iload 3) :: (1, .laload) :: (2, .aload 0) :: (1, .fload 65) :: (1, .dload 11) :: (0, .lmul) :: (2, .lstore 4) :: (2, .aload 0) :: (2, .iload 3) :: (2, .aload 0) :: (1, .fload 65) :: (1, .dload 9) :: (2, .aload 0) :: (1, .fload 65) :: (1, .dload 11) :: (0, .lmul) :: (2, .invokevirtual 6179) :: s11_54
def s11_88 : List Ins := (0, .ldc 0) :: (2, .jsr 89) :: []
def s11_89 : List Ins := (2, .istore 7) :: (2, .iload 7) :: (2, .ifCond .ne 100) :: (2, .iload 1) :: (2, .ifCond .eq 108) :: (2, .jsr 100) :: []
def s11_100 : List Ins := (2, .aload 0) :: (1, .checkcast 71) :: (2, .iload 3) :: (2, .iload 6) :: (1, .iastore) :: (2, .jsr 108) :: []
def s11_108 : List Ins := (2, .iload 2) :: (2, .iload 7) :: (0, .ior) :: (2, .istore 2) :: (2, .iinc 3 1) :: (2, .goto 4) :: []
def s11_119 : List Ins := (2, .iload 2) :: (2, .freturn) :: []
def tx_11 : Tx := [(0, 3, s11_0), (4, 15, s11_4), (88, 79, s11_88), (89, 79, s11_89), (100, 207, s11_100), (108, 143, s11_108), (119, 4, s11_119)]
-- 12: WellPumps$Choice.bestAt(IJ)I
def s12_10 : List Ins := (2, .lstore 5) :: (0, .ldc 1) :: (2, .istore 7) :: (2, .jsr 15) :: []
def s12_0 : List Ins := (0, .ldc 0) :: (2, .istore 4) :: (2, .aload 0) :: (2, .iload 1) :: (0, .ldc 0) :: (2, .lload 2) :: (2, .invokevirtual 6692) :: s12_10
def s12_32 : List Ins := (2, .lstore 8) :: (2, .lload 8) :: (2, .lload 5) :: (0, .lcmp) :: (2, .ifCond .le 50) :: (2, .iload 7) :: (2, .istore 4) :: (2, .lload 8) :: (2, .lstore 5) :: (2, .jsr 50) :: []
def s12_15 : List Ins := (2, .iload 7) :: (2, .aload 0) :: (1, .getfield 66) :: (2, .if_icmp .ge 56) :: (2, .aload 0) :: (2, .iload 1) :: (2, .iload 7) :: (2, .lload 2) :: (2, .invokevirtual 6692) :: s12_32
def s12_50 : List Ins := (2, .iinc 7 1) :: (2, .goto 15) :: []
def s12_56 : List Ins := (2, .iload 4) :: (2, .ireturn) :: []
def tx_12 : Tx := [(0, 7, s12_0), (15, 183, s12_15), (50, 183, s12_50), (56, 16, s12_56)]
-- 13: WellPumps$Choice.valueOf(IIJ)J
def s13_0 : List Ins := (2, .aload 0) :: (1, .checkcast 67) :: (2, .iload 1) :: (0, .ldc 64) :: (0, .imul) :: (2, .iload 2) :: (0, .iadd) :: (1, .iaload) :: (0, .i2l) :: (2, .lload 3) :: (0, .lmul) :: (2, .aload 0) :: (1, .checkcast 69) :: (2, .aload 0) :: (1, .checkcast 68) :: (2, .iload 1) :: (0, .ldc 64) :: (0, .imul) :: (2, .iload 2) :: (0, .iadd) :: (1, .iaload) :: (1, .laload) :: (0, .ladd) :: (2, .lreturn) :: []
def tx_13 : Tx := [(0, 15, s13_0)]
-- 14: WellPumps$Choice.nearAt(III)I
def s14_13 : List Ins := (2, .aload 0) :: (1, .fload 64) :: (1, .getfield 645) :: (0, .i2l) :: (2, .aload 0) :: (1, .fload 64) :: (1, .getfield 646) :: (0, .i2l) :: (0, .lmul) :: (2, .lstore 4) :: (0, .ldc2_w 1) :: (2, .lstore 6) :: (0, .ldc 1) :: (2, .istore 8) :: (2, .jsr 38) :: []
def s14_5 : List Ins := (2, .aload 0) :: (1, .checkcast 69) :: (0, .ldc2_w 0) :: (2, .invokevirtual 118786) :: s14_13
def s14_0 : List Ins := (2, .aload 0) :: (2, .iload 1) :: (2, .invokevirtual 3618) :: s14_5
def s14_38 : List Ins := (2, .iload 8) :: (2, .iload 3) :: (2, .if_icmp .ge 152) :: (0, .ldc 0) :: (2, .istore 9) :: (2, .jsr 47) :: []
def s14_81 : List Ins := (1, .lastore) :: (2, .iinc 9 1) :: (2, .goto 47) :: []
def s14_76 : List Ins := (2, .lload 6) :: (2, .invokevirtual 6692) :: s14_81
def s14_47 : List Ins := (2, .iload 9) :: (2, .aload 0) :: (1, .fload 64) :: (1, .getfield 640) :: (2, .if_icmp .gt 88) :: (2, .aload 0) :: (1, .checkcast 70) :: (2, .iload 9) :: (2, .aload 0) :: (2, .iload 9) :: (2, .aload 0) :: (2, .iload 9) :: (2, .lload 6) :: (2, .invokevirtual 6179) :: s14_76
def s14_88 : List Ins := (0, .ldc 0) :: (2, .istore 9) :: (2, .jsr 91) :: []
def s14_131 : List Ins := (0, .lmul) :: (1, .lastore) :: (2, .iinc 9 1) :: (2, .goto 91) :: []
def s14_91 : List Ins := (2, .iload 9) :: (2, .aload 0) :: (1, .fload 64) :: (1, .getfield 640) :: (2, .if_icmp .gt 139) :: (2, .aload 0) :: (1, .checkcast 69) :: (2, .iload 9) :: (2, .aload 0) :: (1, .fload 64) :: (1, .getfield 644) :: (0, .i2l) :: (2, .aload 0) :: (1, .fload 64) :: (2, .aload 0) :: (1, .checkcast 70) :: (0, .ldc 0) :: (2, .iload 9) :: (2, .invokevirtual 38068) :: s14_131
def s14_139 : List Ins := (2, .lload 6) :: (2, .lload 4) :: (0, .lmul) :: (2, .lstore 6) :: (2, .iinc 8 1) :: (2, .goto 38) :: []
def s14_159 : List Ins := (2, .ireturn) :: []
def s14_152 : List Ins := (2, .aload 0) :: (2, .iload 2) :: (2, .lload 6) :: (2, .invokevirtual 6179) :: s14_159
def tx_14 : Tx := [(0, 15, s14_0), (38, 349, s14_38), (47, 861, s14_47), (88, 349, s14_88), (91, 861, s14_91), (139, 349, s14_139), (152, 69, s14_152)]
-- 15: WellPumps$Judge.follow()V
def s15_16 : List Ins := (2, .return_) :: []
def s15_8 : List Ins := (2, .aload 0) :: (1, .fload 130) :: (0, .ldc 1) :: (2, .invokevirtual 18) :: s15_16
def s15_0 : List Ins := (2, .aload 0) :: (1, .fload 129) :: (0, .ldc 0) :: (2, .invokevirtual 18) :: s15_8
def tx_15 : Tx := [(0, 1, s15_0)]
-- 16: WellPumps$Judge.first(II)I
def s16_20 : List Ins := (0, .ldc 0) :: (2, .istore 3) :: (2, .jsr 22) :: []
def s16_10 : List Ins := (2, .aload 0) :: (2, .aload 0) :: (1, .fload 130) :: (2, .iload 1) :: (2, .iload 2) :: (2, .invokevirtual 8756) :: s16_20
def s16_0 : List Ins := (2, .aload 0) :: (2, .aload 0) :: (1, .fload 129) :: (2, .iload 1) :: (2, .iload 2) :: (2, .invokevirtual 8756) :: s16_10
def s16_22 : List Ins := (2, .iload 3) :: (0, .ldc 2) :: (2, .if_icmp .ge 101) :: (0, .ldc 0) :: (2, .istore 4) :: (2, .jsr 30) :: []
def s16_30 : List Ins := (2, .iload 4) :: (2, .aload 0) :: (1, .fload 128) :: (1, .getfield 640) :: (2, .if_icmp .gt 95) :: (0, .ldc 0) :: (2, .istore 5) :: (2, .jsr 45) :: []
def s16_66 : List Ins := (2, .ifCond .eq 83) :: (0, .ldc 100) :: (2, .iload 3) :: (0, .imul) :: (0, .ldc 10) :: (2, .iload 4) :: (0, .imul) :: (0, .iadd) :: (2, .iload 5) :: (0, .iadd) :: (2, .ireturn) :: []
def s16_45 : List Ins := (2, .iload 5) :: (2, .aload 0) :: (1, .fload 128) :: (1, .getfield 642) :: (2, .if_icmp .ge 89) :: (2, .aload 0) :: (2, .iload 5) :: (2, .iload 4) :: (2, .iload 3) :: (2, .invokevirtual 9268) :: s16_66
def s16_83 : List Ins := (2, .iinc 5 1) :: (2, .goto 45) :: []
def s16_89 : List Ins := (2, .iinc 4 1) :: (2, .goto 30) :: []
def s16_95 : List Ins := (2, .iinc 3 1) :: (2, .goto 22) :: []
def s16_101 : List Ins := (0, .ldc_w 1) :: (2, .ireturn) :: []
def tx_16 : Tx := [(0, 7, s16_0), (22, 9, s16_22), (30, 25, s16_30), (45, 57, s16_45), (83, 57, s16_83), (89, 25, s16_89), (95, 9, s16_95), (101, 0, s16_101)]
-- 17: WellPumps$Judge.settle(LWellPumps$Chain;II)V
def s17_6 : List Ins := (0, .ldc 0) :: (2, .istore 4) :: (2, .jsr 9) :: []
def s17_0 : List Ins := (2, .aload 1) :: (2, .iload 2) :: (2, .iload 3) :: (2, .invokevirtual 1555) :: s17_6
def s17_27 : List Ins := (2, .iinc 4 1) :: (2, .goto 9) :: []
def s17_9 : List Ins := (2, .iload 4) :: (2, .aload 0) :: (1, .fload 128) :: (1, .getfield 642) :: (2, .if_icmp .ge 33) :: (2, .aload 1) :: (2, .iload 4) :: (2, .invokevirtual 2066) :: s17_27
def s17_33 : List Ins := (2, .return_) :: []
def tx_17 : Tx := [(0, 15, s17_0), (9, 19, s17_9), (33, 0, s17_33)]
-- 18: WellPumps$Judge.wouldElse(III)Z
def s18_0 : List Ins := (2, .iload 3) :: (2, .ifCond .ne 11) :: (2, .aload 0) :: (1, .fload 129) :: (2, .goto 15) :: []
def s18_11 : List Ins := (2, .aload 0) :: (1, .fload 130) :: (2, .jsr 15) :: []
def s18_40 : List Ins := (2, .aload 0) :: (1, .fload 128) :: (1, .checkcast 651) :: (2, .iload 1) :: (1, .iaload) :: (2, .istore 7) :: (0, .ldc 0) :: (2, .istore 8) :: (2, .jsr 54) :: []
def s18_15 : List Ins := (2, .astore 4) :: (2, .aload 4) :: (1, .checkcast 8) :: (2, .iload 1) :: (0, .ldc 8) :: (0, .imul) :: (2, .iload 2) :: (0, .iadd) :: (1, .laload) :: (2, .lstore 5) :: (2, .aload 0) :: (1, .fload 128) :: (2, .iload 2) :: (2, .iload 3) :: (2, .invokevirtual 34483) :: s18_40
def s18_54 : List Ins := (2, .iload 8) :: (0, .ldc 4) :: (2, .if_icmp .ge 162) :: (2, .iload 8) :: (2, .iload 7) :: (2, .if_icmp .le 74) :: (2, .aload 0) :: (1, .fload 130) :: (2, .goto 76) :: []
def s18_74 : List Ins := (2, .aload 4) :: (2, .jsr 76) :: []
def s18_151 : List Ins := (2, .ifCond .eq 156) :: (0, .ldc 1) :: (2, .freturn) :: []
def s18_119 : List Ins := (2, .lstore 10) :: (2, .iload 8) :: (2, .iload 7) :: (2, .if_icmp .eq 156) :: (2, .lload 10) :: (2, .aload 9) :: (1, .dload 9) :: (2, .aload 9) :: (1, .dload 11) :: (0, .lmul) :: (2, .lload 5) :: (2, .aload 4) :: (1, .dload 9) :: (2, .invokevirtual 65028) :: s18_151
def s18_109 : List Ins := (2, .aload 0) :: (1, .fload 128) :: (1, .getfield 653) :: (2, .invokevirtual 2580) :: s18_119
def s18_97 : List Ins := (2, .aload 9) :: (2, .iload 1) :: (2, .aload 0) :: (1, .fload 128) :: (2, .iload 1) :: (2, .iload 2) :: (2, .invokevirtual 36019) :: s18_109
def s18_76 : List Ins := (2, .astore 9) :: (2, .aload 0) :: (1, .fload 128) :: (1, .checkcast 651) :: (2, .iload 1) :: (2, .iload 8) :: (1, .iastore) :: (2, .aload 0) :: (1, .fload 128) :: (2, .iload 2) :: (2, .invokevirtual 35506) :: s18_97
def s18_156 : List Ins := (2, .iinc 8 1) :: (2, .goto 54) :: []
def s18_162 : List Ins := (0, .ldc 0) :: (2, .freturn) :: []
def tx_18 : Tx := [(0, 15, s18_0), (11, 15, s18_11), (15, 15, s18_15), (54, 439, s18_54), (74, 439, s18_74), (76, 439, s18_76), (156, 439, s18_156), (162, 0, s18_162)]
-- 19: WellPumps$Reader.place(III)I
def s19_0 : List Ins := (2, .iload 0) :: (0, .ldc 2) :: (0, .imul) :: (2, .iload 2) :: (0, .iadd) :: (0, .ldc 8) :: (0, .imul) :: (2, .iload 1) :: (0, .iadd) :: (2, .ireturn) :: []
def tx_19 : Tx := [(0, 7, s19_0)]
-- 20: WellPumps$Reader.read()I
def s20_4 : List Ins := (2, .aload 0) :: (0, .ldc_w 1) :: (1, .putfield 199) :: (2, .aload 0) :: (0, .ldc 1) :: (1, .putfield 198) :: (2, .jsr 14) :: []
def s20_0 : List Ins := (2, .aload 0) :: (2, .invokevirtual 10817) :: s20_4
def s20_50 : List Ins := (2, .aload 0) :: (0, .dup) :: (1, .getfield 198) :: (0, .ldc 1) :: (0, .iadd) :: (1, .putfield 198) :: (2, .goto 14) :: []
def s20_14 : List Ins := (2, .aload 0) :: (1, .getfield 198) :: (0, .ldc 7) :: (2, .if_icmp .gt 63) :: (2, .aload 0) :: (1, .getfield 199) :: (0, .ldc_w 1) :: (2, .if_icmp .ne 63) :: (2, .aload 0) :: (0, .ldc 0) :: (1, .putfield 196) :: (2, .aload 0) :: (2, .aload 0) :: (1, .checkcast 193) :: (0, .ldc 0) :: (1, .aaload) :: (1, .anewarray 197) :: (2, .aload 0) :: (2, .invokevirtual 12865) :: s20_50
def s20_63 : List Ins := (2, .aload 0) :: (1, .getfield 199) :: (2, .ireturn) :: []
def tx_20 : Tx := [(0, 1, s20_0), (14, 1, s20_14), (63, 1, s20_63)]
-- 21: WellPumps$Reader.partText()V
def s21_0 : List Ins := (0, .ldc 0) :: (2, .istore 1) :: (0, .ldc 0) :: (2, .istore 2) :: (0, .ldc 0) :: (2, .istore 3) :: (2, .jsr 6) :: []
def s21_86 : List Ins := (2, .goto 90) :: []
def s21_61 : List Ins := (1, .aastore) :: (2, .aload 0) :: (1, .checkcast 195) :: (2, .iload 1) :: (2, .aload 0) :: (1, .checkcast 193) :: (2, .iload 1) :: (1, .aaload) :: (0, .new 70102) :: (2, .if_acmp .ne 89) :: (2, .aload 0) :: (2, .iload 4) :: (2, .iload 2) :: (2, .invokevirtual 11843) :: s21_86
def s21_33 : List Ins := (2, .istore 2) :: (2, .aload 0) :: (1, .fload 192) :: (1, .checkcast 384) :: (2, .iload 4) :: (1, .baload) :: (0, .ldc 32) :: (2, .if_icmp .eq 102) :: (2, .aload 0) :: (1, .checkcast 193) :: (2, .iload 1) :: (2, .aload 0) :: (2, .iload 4) :: (2, .iload 2) :: (2, .invokevirtual 12355) :: s21_61
def s21_6 : List Ins := (2, .iload 2) :: (2, .aload 0) :: (1, .fload 192) :: (1, .getfield 385) :: (2, .if_icmp .ge 108) :: (2, .iload 3) :: (0, .ldc 400) :: (2, .if_icmp .ge 108) :: (2, .iload 2) :: (2, .istore 4) :: (2, .aload 0) :: (2, .iload 4) :: (2, .invokevirtual 11330) :: s21_33
def s21_89 : List Ins := (0, .ldc 0) :: (2, .jsr 90) :: []
def s21_90 : List Ins := (1, .iastore) :: (2, .aload 0) :: (1, .checkcast 194) :: (2, .iload 1) :: (2, .iload 4) :: (1, .iastore) :: (2, .iinc 1 1) :: (2, .jsr 102) :: []
def s21_102 : List Ins := (2, .iinc 3 1) :: (2, .goto 6) :: []
def s21_108 : List Ins := (2, .aload 0) :: (1, .checkcast 193) :: (2, .iload 1) :: (0, .new 70100) :: (1, .aastore) :: (2, .aload 0) :: (1, .checkcast 195) :: (2, .iload 1) :: (0, .ldc 0) :: (1, .iastore) :: (2, .aload 0) :: (1, .checkcast 194) :: (2, .iload 1) :: (2, .aload 0) :: (1, .fload 192) :: (1, .getfield 385) :: (1, .iastore) :: (2, .return_) :: []
def tx_21 : Tx := [(0, 1, s21_0), (6, 15, s21_6), (89, 31, s21_89), (90, 31, s21_90), (102, 15, s21_102), (108, 3, s21_108)]
-- 22: WellPumps$Reader.behindThing(I)I
def s22_16 : List Ins := (2, .ifCond .eq 51) :: (2, .jsr 19) :: []
def s22_0 : List Ins := (2, .iload 1) :: (0, .ldc 1) :: (0, .iadd) :: (2, .istore 2) :: (2, .aload 0) :: (1, .fload 192) :: (2, .iload 1) :: (0, .ldc 97) :: (0, .ldc 122) :: (2, .invokevirtual 22644) :: s22_16
def s22_42 : List Ins := (2, .ifCond .eq 98) :: (2, .iinc 2 1) :: (2, .goto 19) :: []
def s22_19 : List Ins := (2, .iload 2) :: (2, .aload 0) :: (1, .fload 192) :: (1, .getfield 385) :: (2, .if_icmp .ge 98) :: (2, .aload 0) :: (1, .fload 192) :: (2, .iload 2) :: (0, .ldc 97) :: (0, .ldc 122) :: (2, .invokevirtual 22644) :: s22_42
def s22_63 : List Ins := (2, .ifCond .eq 98) :: (2, .jsr 66) :: []
def s22_51 : List Ins := (2, .aload 0) :: (1, .fload 192) :: (2, .iload 1) :: (0, .ldc 48) :: (0, .ldc 57) :: (2, .invokevirtual 22644) :: s22_63
def s22_89 : List Ins := (2, .ifCond .eq 98) :: (2, .iinc 2 1) :: (2, .goto 66) :: []
def s22_66 : List Ins := (2, .iload 2) :: (2, .aload 0) :: (1, .fload 192) :: (1, .getfield 385) :: (2, .if_icmp .ge 98) :: (2, .aload 0) :: (1, .fload 192) :: (2, .iload 2) :: (0, .ldc 48) :: (0, .ldc 57) :: (2, .invokevirtual 22644) :: s22_89
def s22_98 : List Ins := (2, .iload 2) :: (2, .ireturn) :: []
def tx_22 : Tx := [(0, 3, s22_0), (19, 5, s22_19), (51, 7, s22_51), (66, 5, s22_66), (98, 4, s22_98)]
-- 23: WellPumps$Reader.numberOf(II)I
def s23_0 : List Ins := (0, .ldc 0) :: (2, .istore 3) :: (2, .iload 1) :: (2, .istore 4) :: (2, .jsr 5) :: []
def s23_5 : List Ins := (2, .iload 4) :: (2, .iload 2) :: (2, .if_icmp .ge 36) :: (2, .iload 3) :: (0, .ldc 10) :: (0, .imul) :: (2, .aload 0) :: (1, .fload 192) :: (1, .checkcast 384) :: (2, .iload 4) :: (1, .baload) :: (0, .iadd) :: (0, .ldc 48) :: (0, .isub) :: (2, .istore 3) :: (2, .iinc 4 1) :: (2, .goto 5) :: []
def s23_36 : List Ins := (2, .iload 3) :: (2, .ireturn) :: []
def tx_23 : Tx := [(0, 7, s23_0), (5, 29, s23_5), (36, 8, s23_36)]
-- 24: WellPumps$Reader.thingOf(II)LWellPumps$Thing;
def s24_12 : List Ins := (2, .ifCond .eq 32) :: (2, .iload 2) :: (2, .iload 1) :: (0, .isub) :: (0, .ldc 2) :: (2, .if_icmp .le 28) :: (0, .new 70101) :: (2, .goto 31) :: []
def s24_0 : List Ins := (2, .aload 0) :: (1, .fload 192) :: (2, .iload 1) :: (0, .ldc 48) :: (0, .ldc 57) :: (2, .invokevirtual 22644) :: s24_12
def s24_28 : List Ins := (0, .new 70102) :: (2, .jsr 31) :: []
def s24_31 : List Ins := (2, .areturn) :: []
def s24_41 : List Ins := (2, .areturn) :: []
def s24_32 : List Ins := (2, .aload 0) :: (1, .fload 192) :: (2, .iload 1) :: (2, .iload 2) :: (2, .invokevirtual 23555) :: s24_41
def tx_24 : Tx := [(0, 7, s24_0), (28, 0, s24_28), (31, 0, s24_31), (32, 7, s24_32)]
-- 25: WellPumps$Reader.readLines()V
def s25_0 : List Ins := (2, .aload 0) :: (1, .getfield 198) :: (0, .ldc 1) :: (0, .isub) :: (0, .ldc 2) :: (0, .imul) :: (2, .istore 1) :: (2, .aload 0) :: (1, .checkcast 202) :: (2, .iload 1) :: (0, .ldc2_w 0) :: (1, .lastore) :: (2, .aload 0) :: (1, .checkcast 202) :: (2, .iload 1) :: (0, .ldc 1) :: (0, .iadd) :: (0, .ldc2_w 0) :: (1, .lastore) :: (0, .ldc2_w 281474976710655) :: (2, .lstore 2) :: (2, .aload 0) :: (1, .instanceof 197) :: (0, .new 70100) :: (2, .if_acmp .eq 43) :: (0, .ldc 1) :: (2, .goto 44) :: []
def s25_43 : List Ins := (0, .ldc 0) :: (2, .jsr 44) :: []
def s25_44 : List Ins := (2, .istore 4) :: (0, .ldc 0) :: (2, .istore 5) :: (2, .jsr 49) :: []
def s25_66 : List Ins := (2, .lstore 2) :: (2, .aload 0) :: (1, .instanceof 197) :: (0, .new 70117) :: (2, .if_acmp .ne 81) :: (0, .ldc 1) :: (2, .goto 82) :: []
def s25_49 : List Ins := (2, .iload 4) :: (2, .ifCond .eq 99) :: (2, .iload 5) :: (0, .ldc 10) :: (2, .if_icmp .ge 99) :: (2, .aload 0) :: (2, .lload 2) :: (2, .invokevirtual 13378) :: s25_66
def s25_81 : List Ins := (0, .ldc 0) :: (2, .jsr 82) :: []
def s25_93 : List Ins := (2, .iinc 5 1) :: (2, .goto 49) :: []
def s25_82 : List Ins := (2, .istore 4) :: (2, .iload 4) :: (2, .ifCond .eq 93) :: (2, .aload 0) :: (2, .invokevirtual 18497) :: s25_93
def s25_99 : List Ins := (2, .iload 4) :: (2, .ifCond .ne 114) :: (2, .aload 0) :: (1, .instanceof 197) :: (0, .new 70100) :: (2, .if_acmp .eq 118) :: (2, .jsr 114) :: []
def s25_118 : List Ins := (2, .return_) :: []
def s25_114 : List Ins := (2, .aload 0) :: (2, .invokevirtual 17985) :: s25_118
def tx_25 : Tx := [(0, 1, s25_0), (43, 5, s25_43), (44, 5, s25_44), (49, 53, s25_49), (81, 37, s25_81), (82, 37, s25_82), (93, 53, s25_93), (99, 17, s25_99), (114, 1, s25_114), (118, 0, s25_118)]
-- 26: WellPumps$Reader.readLine(J)J
def s26_57 : List Ins := (0, .land) :: (2, .lstore 4) :: (2, .jsr 60) :: []
def s26_50 : List Ins := (2, .lload 4) :: (2, .aload 0) :: (0, .ldc 0) :: (2, .invokevirtual 13890) :: s26_57
def s26_33 : List Ins := (2, .lload 1) :: (2, .lstore 4) :: (2, .aload 0) :: (1, .instanceof 197) :: (0, .new 70104) :: (2, .if_acmp .ne 60) :: (2, .aload 0) :: (2, .invokevirtual 18497) :: s26_50
def s26_26 : List Ins := (2, .aload 0) :: (0, .new 70102) :: (2, .invokevirtual 17474) :: s26_33
def s26_7 : List Ins := (2, .aload 0) :: (1, .checkcast 195) :: (2, .aload 0) :: (1, .getfield 196) :: (1, .iaload) :: (2, .istore 3) :: (2, .iload 3) :: (0, .ldc 4) :: (2, .if_icmp .lt 26) :: (2, .aload 0) :: (2, .invokevirtual 17985) :: s26_26
def s26_0 : List Ins := (2, .aload 0) :: (0, .new 70103) :: (2, .invokevirtual 17474) :: s26_7
def s26_60 : List Ins := (2, .aload 0) :: (1, .getfield 198) :: (0, .ldc 1) :: (0, .isub) :: (0, .ldc 2) :: (0, .imul) :: (2, .istore 6) :: (2, .iload 3) :: (0, .ldc 1) :: (0, .iand) :: (2, .ifCond .eq 88) :: (2, .aload 0) :: (1, .checkcast 202) :: (2, .iload 6) :: (0, .dup2) :: (1, .laload) :: (2, .lload 4) :: (0, .lor) :: (1, .lastore) :: (2, .jsr 88) :: []
def s26_88 : List Ins := (2, .iload 3) :: (0, .ldc 2) :: (0, .iand) :: (2, .ifCond .eq 108) :: (2, .aload 0) :: (1, .checkcast 202) :: (2, .iload 6) :: (0, .ldc 1) :: (0, .iadd) :: (0, .dup2) :: (1, .laload) :: (2, .lload 4) :: (0, .lor) :: (1, .lastore) :: (2, .jsr 108) :: []
def s26_108 : List Ins := (2, .lload 1) :: (2, .lload 4) :: (0, .fstore 1) :: (0, .lxor) :: (0, .land) :: (2, .lreturn) :: []
def tx_26 : Tx := [(0, 3, s26_0), (26, 11, s26_26), (60, 27, s26_60), (88, 91, s26_88), (108, 18, s26_108)]
-- 27: WellPumps$Reader.readCondition(I)J
def s27_5 : List Ins := (2, .lstore 2) :: (0, .ldc 0) :: (2, .istore 4) :: (2, .jsr 9) :: []
def s27_0 : List Ins := (2, .aload 0) :: (2, .iload 1) :: (2, .invokevirtual 14402) :: s27_5
def s27_37 : List Ins := (0, .lor) :: (2, .lstore 2) :: (2, .iinc 4 1) :: (2, .goto 9) :: []
def s27_31 : List Ins := (2, .lload 2) :: (2, .aload 0) :: (2, .iload 1) :: (2, .invokevirtual 14402) :: s27_37
def s27_9 : List Ins := (2, .aload 0) :: (1, .instanceof 197) :: (0, .new 70105) :: (2, .if_acmp .ne 45) :: (2, .iload 4) :: (0, .ldc 400) :: (2, .if_icmp .ge 45) :: (2, .aload 0) :: (2, .invokevirtual 18497) :: s27_31
def s27_45 : List Ins := (2, .lload 2) :: (2, .lreturn) :: []
def tx_27 : Tx := [(0, 3, s27_0), (9, 23, s27_9), (45, 4, s27_45)]
-- 28: WellPumps$Reader.readAll(I)J
def s28_5 : List Ins := (2, .lstore 2) :: (0, .ldc 0) :: (2, .istore 4) :: (2, .jsr 9) :: []
def s28_0 : List Ins := (2, .aload 0) :: (2, .iload 1) :: (2, .invokevirtual 14914) :: s28_5
def s28_37 : List Ins := (0, .land) :: (2, .lstore 2) :: (2, .iinc 4 1) :: (2, .goto 9) :: []
def s28_31 : List Ins := (2, .lload 2) :: (2, .aload 0) :: (2, .iload 1) :: (2, .invokevirtual 14914) :: s28_37
def s28_9 : List Ins := (2, .aload 0) :: (1, .instanceof 197) :: (0, .new 70106) :: (2, .if_acmp .ne 45) :: (2, .iload 4) :: (0, .ldc 400) :: (2, .if_icmp .ge 45) :: (2, .aload 0) :: (2, .invokevirtual 18497) :: s28_31
def s28_45 : List Ins := (2, .lload 2) :: (2, .lreturn) :: []
def tx_28 : Tx := [(0, 3, s28_0), (9, 23, s28_9), (45, 4, s28_45)]
-- 29: WellPumps$Reader.readAtom(I)J
def s29_0 : List Ins := (2, .aload 0) :: (1, .instanceof 197) :: (0, .new 70107) :: (2, .if_acmp .ne 14) :: (0, .ldc 1) :: (2, .goto 15) :: []
def s29_14 : List Ins := (0, .ldc 0) :: (2, .jsr 15) :: []
def s29_34 : List Ins := (2, .lreturn) :: []
def s29_15 : List Ins := (2, .istore 2) :: (2, .iload 2) :: (2, .ifCond .ne 35) :: (2, .aload 0) :: (1, .instanceof 197) :: (0, .new 70112) :: (2, .if_acmp .eq 35) :: (2, .aload 0) :: (2, .invokevirtual 15425) :: s29_34
def s29_45 : List Ins := (0, .ldc2_w 0) :: (2, .lreturn) :: []
def s29_35 : List Ins := (2, .iload 1) :: (0, .ldc 6) :: (2, .if_icmp .lt 47) :: (2, .aload 0) :: (2, .invokevirtual 17985) :: s29_45
def s29_65 : List Ins := (0, .fstore 1) :: (0, .lxor) :: (0, .land) :: (2, .lreturn) :: []
def s29_51 : List Ins := (2, .iload 2) :: (2, .ifCond .eq 71) :: (0, .ldc2_w 281474976710655) :: (2, .aload 0) :: (2, .iload 1) :: (0, .ldc 1) :: (0, .iadd) :: (2, .invokevirtual 14914) :: s29_65
def s29_47 : List Ins := (2, .aload 0) :: (2, .invokevirtual 18497) :: s29_51
def s29_86 : List Ins := (2, .lload 3) :: (2, .lreturn) :: []
def s29_78 : List Ins := (2, .lstore 3) :: (2, .aload 0) :: (0, .new 70113) :: (2, .invokevirtual 17474) :: s29_86
def s29_71 : List Ins := (2, .aload 0) :: (2, .iload 1) :: (0, .ldc 1) :: (0, .iadd) :: (2, .invokevirtual 13890) :: s29_78
def tx_29 : Tx := [(0, 3, s29_0), (14, 3, s29_14), (15, 3, s29_15), (35, 7, s29_35), (47, 7, s29_47), (71, 3, s29_71)]
-- 30: WellPumps$Reader.readTagOrSums()J
def s30_14 : List Ins := (0, .ldc2_w 280379743338240) :: (2, .lreturn) :: []
def s30_0 : List Ins := (2, .aload 0) :: (1, .instanceof 197) :: (0, .new 70108) :: (2, .if_acmp .ne 18) :: (2, .aload 0) :: (2, .invokevirtual 18497) :: s30_14
def s30_26 : List Ins := (2, .aload 0) :: (1, .instanceof 197) :: (0, .new 70115) :: (2, .if_acmp .ne 40) :: (0, .ldc 1) :: (2, .goto 41) :: []
def s30_18 : List Ins := (2, .aload 0) :: (2, .aload 0) :: (1, .checkcast 200) :: (2, .invokevirtual 15938) :: s30_26
def s30_40 : List Ins := (0, .ldc 0) :: (2, .jsr 41) :: []
def s30_41 : List Ins := (2, .istore 1) :: (2, .aload 0) :: (2, .iload 1) :: (2, .ifCond .eq 53) :: (0, .new 70115) :: (2, .goto 56) :: []
def s30_53 : List Ins := (0, .new 70116) :: (2, .jsr 56) :: []
def s30_82 : List Ins := (2, .goto 96) :: []
def s30_67 : List Ins := (2, .iload 1) :: (2, .ifCond .eq 85) :: (2, .aload 0) :: (1, .checkcast 200) :: (2, .aload 0) :: (1, .checkcast 201) :: (2, .invokevirtual 16898) :: s30_82
def s30_59 : List Ins := (2, .aload 0) :: (2, .aload 0) :: (1, .checkcast 201) :: (2, .invokevirtual 15938) :: s30_67
def s30_56 : List Ins := (2, .invokevirtual 17474) :: s30_59
def s30_96 : List Ins := (2, .lreturn) :: []
def s30_85 : List Ins := (2, .aload 0) :: (1, .checkcast 201) :: (2, .aload 0) :: (1, .checkcast 200) :: (2, .invokevirtual 16898) :: s30_96
def tx_30 : Tx := [(0, 1, s30_0), (18, 1, s30_18), (40, 1, s30_40), (41, 1, s30_41), (53, 3, s30_53), (56, 3, s30_56), (85, 1, s30_85), (96, 0, s30_96)]
-- 31: WellPumps$Reader.readSum([I)V
def s31_5 : List Ins := (0, .ldc 1) :: (2, .istore 2) :: (0, .ldc 0) :: (2, .istore 3) :: (2, .jsr 9) :: []
def s31_0 : List Ins := (2, .aload 1) :: (0, .ldc 0) :: (2, .invokevirtual 119298) :: s31_5
def s31_9 : List Ins := (2, .iload 2) :: (2, .ifCond .eq 149) :: (2, .iload 3) :: (0, .ldc 400) :: (2, .if_icmp .ge 149) :: (2, .aload 0) :: (1, .instanceof 197) :: (0, .new 70102) :: (2, .if_acmp .ne 48) :: (2, .aload 1) :: (0, .ldc 0) :: (0, .dup2) :: (1, .caload) :: (2, .aload 0) :: (1, .checkcast 195) :: (2, .aload 0) :: (1, .getfield 196) :: (1, .iaload) :: (0, .iadd) :: (1, .castore) :: (2, .goto 115) :: []
def s31_48 : List Ins := (2, .aload 0) :: (1, .instanceof 197) :: (0, .new 70110) :: (2, .if_acmp .ne 71) :: (2, .aload 1) :: (0, .ldc 0) :: (0, .dup2) :: (1, .caload) :: (2, .aload 0) :: (1, .getfield 198) :: (0, .iadd) :: (1, .castore) :: (2, .goto 115) :: []
def s31_71 : List Ins := (2, .aload 0) :: (1, .instanceof 197) :: (0, .new 70109) :: (2, .if_acmp .ne 91) :: (2, .aload 1) :: (0, .ldc 1) :: (0, .dup2) :: (1, .caload) :: (0, .ldc 1) :: (0, .iadd) :: (1, .castore) :: (2, .goto 115) :: []
def s31_91 : List Ins := (2, .aload 0) :: (1, .instanceof 197) :: (0, .new 70111) :: (2, .if_acmp .ne 111) :: (2, .aload 1) :: (0, .ldc 2) :: (0, .dup2) :: (1, .caload) :: (0, .ldc 1) :: (0, .iadd) :: (1, .castore) :: (2, .goto 115) :: []
def s31_119 : List Ins := (2, .aload 0) :: (1, .instanceof 197) :: (0, .new 70114) :: (2, .if_acmp .ne 133) :: (0, .ldc 1) :: (2, .goto 134) :: []
def s31_115 : List Ins := (2, .aload 0) :: (2, .invokevirtual 18497) :: s31_119
def s31_111 : List Ins := (2, .aload 0) :: (2, .invokevirtual 17985) :: s31_115
def s31_133 : List Ins := (0, .ldc 0) :: (2, .jsr 134) :: []
def s31_143 : List Ins := (2, .iinc 3 1) :: (2, .goto 9) :: []
def s31_134 : List Ins := (2, .istore 2) :: (2, .iload 2) :: (2, .ifCond .eq 143) :: (2, .aload 0) :: (2, .invokevirtual 18497) :: s31_143
def s31_149 : List Ins := (2, .return_) :: []
def tx_31 : Tx := [(0, 3, s31_0), (9, 15, s31_9), (48, 11, s31_48), (71, 11, s31_71), (91, 11, s31_91), (111, 11, s31_111), (115, 11, s31_115), (133, 11, s31_133), (134, 11, s31_134), (143, 15, s31_143), (149, 0, s31_149)]
-- 32: WellPumps$Reader.step()V
def s32_0 : List Ins := (2, .aload 0) :: (1, .instanceof 197) :: (0, .new 70100) :: (2, .if_acmp .eq 43) :: (2, .aload 0) :: (1, .getfield 196) :: (0, .ldc 400) :: (2, .if_icmp .ge 43) :: (2, .aload 0) :: (0, .dup) :: (1, .getfield 196) :: (0, .ldc 1) :: (0, .iadd) :: (1, .putfield 196) :: (2, .aload 0) :: (2, .aload 0) :: (1, .checkcast 193) :: (2, .aload 0) :: (1, .getfield 196) :: (1, .aaload) :: (1, .anewarray 197) :: (2, .jsr 43) :: []
def s32_43 : List Ins := (2, .return_) :: []
def tx_32 : Tx := [(0, 1, s32_0), (43, 0, s32_43)]
-- 33: WellPumps$Reader.whereLess([I[I)J
def s33_0 : List Ins := (0, .ldc2_w 0) :: (2, .lstore 2) :: (0, .ldc 0) :: (2, .istore 4) :: (2, .jsr 5) :: []
def s33_5 : List Ins := (2, .iload 4) :: (0, .ldc 3) :: (2, .if_icmp .ge 93) :: (0, .ldc 0) :: (2, .istore 5) :: (2, .jsr 14) :: []
def s33_77 : List Ins := (0, .lshl) :: (0, .lor) :: (0, .lor) :: (2, .lstore 2) :: (2, .jsr 81) :: []
def s33_67 : List Ins := (0, .lshl) :: (0, .ldc2_w 1) :: (2, .iload 4) :: (2, .iload 5) :: (0, .ldc 1) :: (2, .invokevirtual 9731) :: s33_77
def s33_14 : List Ins := (2, .iload 5) :: (0, .ldc 8) :: (2, .if_icmp .ge 87) :: (2, .aload 1) :: (0, .ldc 0) :: (1, .caload) :: (2, .aload 0) :: (0, .ldc 0) :: (1, .caload) :: (0, .isub) :: (2, .aload 1) :: (0, .ldc 1) :: (1, .caload) :: (2, .aload 0) :: (0, .ldc 1) :: (1, .caload) :: (0, .isub) :: (2, .iload 5) :: (0, .imul) :: (0, .iadd) :: (2, .aload 1) :: (0, .ldc 2) :: (1, .caload) :: (2, .aload 0) :: (0, .ldc 2) :: (1, .caload) :: (0, .isub) :: (2, .iload 4) :: (0, .imul) :: (0, .iadd) :: (2, .istore 6) :: (2, .iload 6) :: (2, .ifCond .le 81) :: (2, .lload 2) :: (0, .ldc2_w 1) :: (2, .iload 4) :: (2, .iload 5) :: (0, .ldc 0) :: (2, .invokevirtual 9731) :: s33_67
def s33_81 : List Ins := (2, .iinc 5 1) :: (2, .goto 14) :: []
def s33_87 : List Ins := (2, .iinc 4 1) :: (2, .goto 5) :: []
def s33_93 : List Ins := (2, .lload 2) :: (2, .lreturn) :: []
def tx_33 : Tx := [(0, 3, s33_0), (5, 23, s33_5), (14, 55, s33_14), (81, 55, s33_81), (87, 23, s33_87), (93, 4, s33_93)]
-- 34: WellPumps$Reader.take(LWellPumps$Thing;)V
def s34_16 : List Ins := (2, .return_) :: []
def s34_12 : List Ins := (2, .aload 0) :: (2, .invokevirtual 18497) :: s34_16
def s34_0 : List Ins := (2, .aload 0) :: (1, .instanceof 197) :: (2, .aload 1) :: (2, .if_acmp .eq 12) :: (2, .aload 0) :: (2, .invokevirtual 17985) :: s34_12
def tx_34 : Tx := [(0, 3, s34_0), (12, 1, s34_12)]
-- 35: WellPumps$Reader.refuse()V
def s35_0 : List Ins := (2, .aload 0) :: (1, .getfield 199) :: (0, .ldc_w 1) :: (2, .if_icmp .ne 21) :: (2, .aload 0) :: (2, .aload 0) :: (1, .checkcast 194) :: (2, .aload 0) :: (1, .getfield 196) :: (1, .iaload) :: (1, .putfield 199) :: (2, .jsr 21) :: []
def s35_21 : List Ins := (2, .aload 0) :: (0, .new 70100) :: (1, .anewarray 197) :: (2, .return_) :: []
def tx_35 : Tx := [(0, 1, s35_0), (21, 1, s35_21)]
-- 36: WellPumps$Reader.step()V
def s36_0 : List Ins := (2, .aload 0) :: (1, .instanceof 197) :: (0, .new 70100) :: (2, .if_acmp .eq 43) :: (2, .aload 0) :: (1, .getfield 196) :: (0, .ldc 400) :: (2, .if_icmp .ge 43) :: (2, .aload 0) :: (0, .dup) :: (1, .getfield 196) :: (0, .ldc 1) :: (0, .iadd) :: (1, .putfield 196) :: (2, .aload 0) :: (2, .aload 0) :: (1, .checkcast 193) :: (2, .aload 0) :: (1, .getfield 196) :: (1, .aaload) :: (1, .anewarray 197) :: (2, .jsr 43) :: []
def s36_43 : List Ins := (2, .return_) :: []
def tx_36 : Tx := [(0, 1, s36_0), (43, 0, s36_43)]
-- 37: WellPumps$Rests.work(II)V
def s37_8 : List Ins := (2, .aload 0) :: (0, .ldc2_w 1) :: (1, .dstore 260) :: (0, .ldc 1) :: (2, .istore 3) :: (2, .jsr 15) :: []
def s37_0 : List Ins := (2, .aload 0) :: (1, .checkcast 258) :: (0, .ldc2_w 0) :: (2, .invokevirtual 118786) :: s37_8
def s37_15 : List Ins := (2, .iload 3) :: (2, .iload 2) :: (2, .if_icmp .ge 150) :: (0, .ldc 0) :: (2, .istore 4) :: (2, .jsr 23) :: []
def s37_41 : List Ins := (2, .iinc 4 1) :: (2, .goto 23) :: []
def s37_23 : List Ins := (2, .iload 4) :: (2, .aload 0) :: (1, .fload 256) :: (1, .getfield 640) :: (2, .if_icmp .gt 47) :: (2, .aload 0) :: (2, .iload 4) :: (2, .invokevirtual 19538) :: s37_41
def s37_47 : List Ins := (0, .ldc 0) :: (2, .istore 4) :: (2, .jsr 50) :: []
def s37_50 : List Ins := (2, .iload 4) :: (0, .ldc 24) :: (2, .if_icmp .gt 118) :: (0, .ldc 0) :: (2, .istore 5) :: (2, .jsr 60) :: []
def s37_104 : List Ins := (0, .lmul) :: (1, .lastore) :: (2, .iinc 5 1) :: (2, .goto 60) :: []
def s37_60 : List Ins := (2, .iload 5) :: (2, .aload 0) :: (1, .fload 256) :: (1, .getfield 640) :: (2, .if_icmp .gt 112) :: (2, .aload 0) :: (1, .checkcast 258) :: (2, .iload 4) :: (2, .iload 5) :: (0, .iadd) :: (2, .aload 0) :: (1, .fload 256) :: (1, .getfield 644) :: (0, .i2l) :: (2, .aload 0) :: (1, .fload 256) :: (2, .aload 0) :: (1, .checkcast 257) :: (2, .iload 4) :: (2, .iload 5) :: (2, .invokevirtual 38068) :: s37_104
def s37_112 : List Ins := (2, .iinc 4 8) :: (2, .goto 50) :: []
def s37_118 : List Ins := (2, .aload 0) :: (0, .dup) :: (1, .dload 260) :: (2, .aload 0) :: (1, .fload 256) :: (1, .getfield 645) :: (0, .i2l) :: (2, .aload 0) :: (1, .fload 256) :: (1, .getfield 646) :: (0, .i2l) :: (0, .lmul) :: (0, .lmul) :: (1, .dstore 260) :: (2, .iinc 3 1) :: (2, .goto 15) :: []
def s37_155 : List Ins := (2, .return_) :: []
def s37_150 : List Ins := (2, .aload 0) :: (2, .iload 1) :: (2, .invokevirtual 19538) :: s37_155
def tx_37 : Tx := [(0, 7, s37_0), (15, 15, s37_15), (23, 31, s37_23), (47, 15, s37_47), (50, 31, s37_50), (60, 63, s37_60), (112, 31, s37_112), (118, 15, s37_118), (150, 3, s37_150)]
-- 38: WellPumps$Rests.workLevel(I)V
def s38_7 : List Ins := (2, .istore 2) :: (0, .ldc 0) :: (2, .istore 3) :: (2, .jsr 10) :: []
def s38_0 : List Ins := (2, .aload 0) :: (1, .fload 256) :: (2, .invokevirtual 40113) :: s38_7
def s38_37 : List Ins := (2, .iinc 3 1) :: (2, .goto 10) :: []
def s38_31 : List Ins := (2, .aload 0) :: (2, .iload 1) :: (2, .iload 3) :: (2, .invokevirtual 20051) :: s38_37
def s38_23 : List Ins := (2, .aload 0) :: (1, .fload 256) :: (2, .iload 1) :: (2, .invokevirtual 35506) :: s38_31
def s38_10 : List Ins := (2, .iload 3) :: (2, .iload 2) :: (2, .if_icmp .ge 43) :: (2, .aload 0) :: (1, .fload 256) :: (2, .iload 3) :: (2, .invokevirtual 38578) :: s38_23
def s38_43 : List Ins := (2, .aload 0) :: (0, .ldc 0) :: (1, .putfield 261) :: (0, .ldc 0) :: (2, .istore 3) :: (2, .jsr 50) :: []
def s38_60 : List Ins := (2, .ifCond .eq 71) :: (2, .aload 0) :: (2, .iload 3) :: (1, .putfield 261) :: (2, .goto 77) :: []
def s38_50 : List Ins := (2, .iload 3) :: (2, .iload 2) :: (2, .if_icmp .ge 77) :: (2, .aload 0) :: (2, .iload 3) :: (2, .invokevirtual 20562) :: s38_60
def s38_71 : List Ins := (2, .iinc 3 1) :: (2, .goto 50) :: []
def s38_77 : List Ins := (0, .ldc 0) :: (2, .istore 3) :: (2, .jsr 79) :: []
def s38_79 : List Ins := (2, .iload 3) :: (0, .ldc 3) :: (2, .if_icmp .gt 115) :: (2, .aload 0) :: (1, .checkcast 257) :: (2, .iload 3) :: (0, .ldc 8) :: (0, .imul) :: (2, .iload 1) :: (0, .iadd) :: (2, .aload 0) :: (1, .checkcast 259) :: (2, .iload 3) :: (0, .ldc 64) :: (0, .imul) :: (2, .aload 0) :: (1, .getfield 261) :: (0, .iadd) :: (1, .laload) :: (1, .lastore) :: (2, .iinc 3 1) :: (2, .goto 79) :: []
def s38_115 : List Ins := (2, .return_) :: []
def tx_38 : Tx := [(0, 3, s38_0), (10, 15, s38_10), (43, 7, s38_43), (50, 15, s38_50), (71, 15, s38_71), (77, 3, s38_77), (79, 11, s38_79), (115, 0, s38_115)]
-- 39: WellPumps$Rests.value(II)V
def s39_0 : List Ins := (0, .ldc2_w 0) :: (2, .lstore 3) :: (0, .ldc 0) :: (2, .istore 5) :: (2, .jsr 5) :: []
def s39_75 : List Ins := (0, .i2l) :: (0, .ladd) :: (2, .lstore 3) :: (2, .iinc 5 1) :: (2, .goto 5) :: []
def s39_38 : List Ins := (0, .i2l) :: (2, .aload 0) :: (1, .dload 260) :: (0, .lmul) :: (2, .aload 0) :: (1, .checkcast 258) :: (2, .iload 5) :: (0, .ldc 8) :: (0, .imul) :: (2, .aload 0) :: (1, .fload 256) :: (1, .getfield 653) :: (0, .iadd) :: (1, .laload) :: (0, .ladd) :: (1, .lastore) :: (2, .lload 3) :: (2, .aload 0) :: (1, .fload 256) :: (2, .iload 5) :: (2, .iload 1) :: (2, .invokevirtual 36531) :: s39_75
def s39_5 : List Ins := (2, .iload 5) :: (2, .aload 0) :: (1, .fload 256) :: (1, .getfield 642) :: (2, .if_icmp .ge 84) :: (2, .aload 0) :: (1, .checkcast 259) :: (2, .iload 5) :: (0, .ldc 64) :: (0, .imul) :: (2, .iload 2) :: (0, .iadd) :: (2, .aload 0) :: (1, .fload 256) :: (2, .iload 5) :: (2, .iload 1) :: (2, .invokevirtual 36019) :: s39_38
def s39_84 : List Ins := (2, .aload 0) :: (1, .checkcast 259) :: (0, .ldc 192) :: (2, .iload 2) :: (0, .iadd) :: (2, .lload 3) :: (2, .aload 0) :: (1, .dload 260) :: (0, .lmul) :: (2, .aload 0) :: (1, .checkcast 258) :: (0, .ldc 24) :: (2, .aload 0) :: (1, .fload 256) :: (1, .getfield 653) :: (0, .iadd) :: (1, .laload) :: (0, .ladd) :: (1, .lastore) :: (2, .return_) :: []
def tx_39 : Tx := [(0, 7, s39_0), (5, 47, s39_5), (84, 13, s39_84)]
-- 40: WellPumps$Rests.isAtRest(I)Z
def s40_0 : List Ins := (0, .ldc 0) :: (2, .istore 2) :: (2, .jsr 2) :: []
def s40_21 : List Ins := (2, .istore 3) :: (0, .ldc 0) :: (2, .istore 4) :: (2, .jsr 25) :: []
def s40_2 : List Ins := (2, .iload 2) :: (2, .aload 0) :: (1, .fload 256) :: (1, .getfield 642) :: (2, .if_icmp .ge 86) :: (2, .aload 0) :: (1, .fload 256) :: (2, .iload 2) :: (2, .invokevirtual 39602) :: s40_21
def s40_25 : List Ins := (2, .iload 4) :: (0, .ldc 4) :: (2, .if_icmp .ge 80) :: (2, .iload 1) :: (0, .ldc 3) :: (2, .iload 3) :: (0, .ishl) :: (0, .ldc_w 1) :: (0, .ixor) :: (0, .iand) :: (2, .iload 4) :: (2, .iload 3) :: (0, .ishl) :: (0, .ior) :: (2, .istore 5) :: (2, .aload 0) :: (1, .checkcast 259) :: (2, .iload 2) :: (0, .ldc 64) :: (0, .imul) :: (2, .iload 5) :: (0, .iadd) :: (1, .laload) :: (2, .aload 0) :: (1, .checkcast 259) :: (2, .iload 2) :: (0, .ldc 64) :: (0, .imul) :: (2, .iload 1) :: (0, .iadd) :: (1, .laload) :: (0, .lcmp) :: (2, .ifCond .le 74) :: (0, .ldc 0) :: (2, .freturn) :: []
def s40_74 : List Ins := (2, .iinc 4 1) :: (2, .goto 25) :: []
def s40_80 : List Ins := (2, .iinc 2 1) :: (2, .goto 2) :: []
def s40_86 : List Ins := (0, .ldc 1) :: (2, .freturn) :: []
def tx_40 : Tx := [(0, 3, s40_0), (2, 7, s40_2), (25, 31, s40_25), (74, 31, s40_74), (80, 7, s40_80), (86, 0, s40_86)]
-- 41: WellPumps$Rows.runDry(II)J
def s41_8 : List Ins := (0, .ldc2_w 1) :: (2, .lstore 3) :: (0, .ldc 1) :: (2, .istore 5) :: (2, .jsr 13) :: []
def s41_0 : List Ins := (2, .aload 0) :: (1, .checkcast 321) :: (0, .ldc2_w 0) :: (2, .invokevirtual 118786) :: s41_8
def s41_13 : List Ins := (2, .iload 5) :: (2, .iload 2) :: (2, .if_icmp .gt 115) :: (2, .aload 0) :: (1, .checkcast 321) :: (0, .ldc 0) :: (2, .lload 3) :: (1, .lastore) :: (0, .ldc 0) :: (2, .istore 6) :: (2, .jsr 29) :: []
def s41_76 : List Ins := (1, .lastore) :: (2, .iinc 6 1) :: (2, .goto 29) :: []
def s41_51 : List Ins := (2, .aload 0) :: (1, .checkcast 322) :: (2, .iload 6) :: (2, .aload 0) :: (1, .fload 320) :: (2, .aload 0) :: (1, .checkcast 321) :: (0, .ldc 0) :: (2, .aload 0) :: (1, .fload 320) :: (1, .getfield 653) :: (2, .invokevirtual 38068) :: s41_76
def s41_29 : List Ins := (2, .iload 6) :: (2, .aload 0) :: (1, .fload 320) :: (1, .getfield 640) :: (2, .if_icmp .gt 83) :: (2, .aload 0) :: (1, .fload 320) :: (2, .iload 6) :: (0, .ldc 0) :: (2, .invokevirtual 34995) :: s41_51
def s41_83 : List Ins := (2, .aload 0) :: (1, .checkcast 322) :: (0, .ldc 0) :: (2, .aload 0) :: (1, .checkcast 321) :: (0, .ldc 0) :: (0, .ldc 8) :: (1, .nop) :: (2, .lload 3) :: (2, .aload 0) :: (1, .fload 320) :: (1, .getfield 646) :: (0, .i2l) :: (0, .lmul) :: (2, .lstore 3) :: (2, .iinc 5 1) :: (2, .goto 13) :: []
def s41_115 : List Ins := (2, .aload 0) :: (1, .checkcast 321) :: (2, .iload 1) :: (1, .laload) :: (2, .lreturn) :: []
def tx_41 : Tx := [(0, 7, s41_0), (13, 47, s41_13), (29, 111, s41_29), (83, 47, s41_83), (115, 3, s41_115)]
-- 42: WellPumps$Rows.buckets(III)J
def s42_8 : List Ins := (0, .ldc2_w 1) :: (2, .lstore 4) :: (0, .ldc 1) :: (2, .istore 6) :: (2, .jsr 14) :: []
def s42_0 : List Ins := (2, .aload 0) :: (1, .checkcast 321) :: (0, .ldc2_w 0) :: (2, .invokevirtual 118786) :: s42_8
def s42_14 : List Ins := (2, .iload 6) :: (2, .iload 3) :: (2, .if_icmp .gt 125) :: (2, .lload 4) :: (2, .aload 0) :: (1, .fload 320) :: (1, .getfield 646) :: (0, .i2l) :: (0, .lmul) :: (2, .lstore 4) :: (0, .ldc 0) :: (2, .istore 7) :: (2, .jsr 36) :: []
def s42_96 : List Ins := (0, .ladd) :: (1, .lastore) :: (2, .iinc 7 1) :: (2, .goto 36) :: []
def s42_58 : List Ins := (2, .aload 0) :: (1, .checkcast 322) :: (2, .iload 7) :: (2, .aload 0) :: (1, .fload 320) :: (1, .checkcast 652) :: (2, .iload 1) :: (1, .iaload) :: (0, .i2l) :: (2, .lload 4) :: (0, .lmul) :: (2, .aload 0) :: (1, .fload 320) :: (2, .aload 0) :: (1, .checkcast 321) :: (0, .ldc 0) :: (2, .aload 0) :: (1, .fload 320) :: (1, .getfield 653) :: (2, .invokevirtual 38068) :: s42_96
def s42_36 : List Ins := (2, .iload 7) :: (2, .aload 0) :: (1, .fload 320) :: (1, .getfield 640) :: (2, .if_icmp .gt 104) :: (2, .aload 0) :: (1, .fload 320) :: (2, .iload 7) :: (0, .ldc 0) :: (2, .invokevirtual 34995) :: s42_58
def s42_104 : List Ins := (2, .aload 0) :: (1, .checkcast 322) :: (0, .ldc 0) :: (2, .aload 0) :: (1, .checkcast 321) :: (0, .ldc 0) :: (0, .ldc 8) :: (1, .nop) :: (2, .iinc 6 1) :: (2, .goto 14) :: []
def s42_125 : List Ins := (2, .aload 0) :: (1, .checkcast 321) :: (2, .iload 2) :: (1, .laload) :: (2, .lreturn) :: []
def tx_42 : Tx := [(0, 15, s42_0), (14, 95, s42_14), (36, 223, s42_36), (104, 95, s42_104), (125, 5, s42_125)]
-- 43: WellPumps$Tape.put(I)V
def s43_0 : List Ins := (0, .ldc 24) :: (2, .istore 2) :: (2, .jsr 3) :: []
def s43_3 : List Ins := (2, .iload 2) :: (2, .ifCond .lt 46) :: (2, .aload 0) :: (1, .getfield 385) :: (0, .ldc 400) :: (2, .if_icmp .ge 46) :: (2, .aload 0) :: (1, .checkcast 384) :: (2, .aload 0) :: (1, .getfield 385) :: (2, .iload 1) :: (2, .iload 2) :: (0, .ishr) :: (0, .i2b) :: (1, .bastore) :: (2, .aload 0) :: (0, .dup) :: (1, .getfield 385) :: (0, .ldc 1) :: (0, .iadd) :: (1, .putfield 385) :: (2, .iinc 2 (-8)) :: (2, .goto 3) :: []
def s43_46 : List Ins := (2, .return_) :: []
def tx_43 : Tx := [(0, 3, s43_0), (3, 7, s43_3), (46, 0, s43_46)]
-- 44: WellPumps$Tape.isIn(ICC)Z
def s44_0 : List Ins := (2, .iload 1) :: (2, .ifCond .lt 36) :: (2, .iload 1) :: (2, .aload 0) :: (1, .getfield 385) :: (2, .if_icmp .ge 36) :: (2, .aload 0) :: (1, .checkcast 384) :: (2, .iload 1) :: (1, .baload) :: (2, .iload 2) :: (2, .if_icmp .lt 36) :: (2, .aload 0) :: (1, .checkcast 384) :: (2, .iload 1) :: (1, .baload) :: (2, .iload 3) :: (2, .if_icmp .gt 36) :: (0, .ldc 1) :: (2, .goto 37) :: []
def s44_36 : List Ins := (0, .ldc 0) :: (2, .jsr 37) :: []
def s44_37 : List Ins := (2, .freturn) :: []
def tx_44 : Tx := [(0, 15, s44_0), (36, 0, s44_36), (37, 0, s44_37)]
-- 45: WellPumps$Thing.isSpelled(LWellPumps$Tape;II)Z
def s45_17 : List Ins := (2, .iload 3) :: (2, .iload 2) :: (0, .isub) :: (2, .if_icmp .eq 25) :: (2, .jsr 23) :: []
def s45_7 : List Ins := (2, .ifCond .ne 23) :: (2, .aload 0) :: (1, .fneg) :: (2, .invokevirtual 512753) :: s45_17
def s45_0 : List Ins := (2, .aload 0) :: (1, .fneg) :: (2, .invokevirtual 513265) :: s45_7
def s45_23 : List Ins := (0, .ldc 0) :: (2, .freturn) :: []
def s45_25 : List Ins := (2, .iload 2) :: (2, .istore 4) :: (2, .jsr 28) :: []
def s45_52 : List Ins := (2, .if_icmp .eq 57) :: (0, .ldc 0) :: (2, .freturn) :: []
def s45_28 : List Ins := (2, .iload 4) :: (2, .iload 3) :: (2, .if_icmp .ge 63) :: (2, .aload 1) :: (1, .checkcast 384) :: (2, .iload 4) :: (1, .baload) :: (2, .aload 0) :: (1, .fneg) :: (2, .iload 4) :: (2, .iload 2) :: (0, .isub) :: (2, .invokevirtual 513778) :: s45_52
def s45_57 : List Ins := (2, .iinc 4 1) :: (2, .goto 28) :: []
def s45_63 : List Ins := (0, .ldc 1) :: (2, .freturn) :: []
def tx_45 : Tx := [(0, 15, s45_0), (23, 0, s45_23), (25, 15, s45_25), (28, 31, s45_28), (57, 31, s45_57), (63, 0, s45_63)]
-- 46: WellPumps$Thing.spelledBy(LWellPumps$Tape;II)LWellPumps$Thing;
def s46_0 : List Ins := (0, .ldc 0) :: (2, .istore 3) :: (2, .jsr 2) :: []
def s46_21 : List Ins := (2, .ifCond .eq 30) :: (0, .new 70003) :: (2, .iload 3) :: (1, .faload) :: (2, .areturn) :: []
def s46_2 : List Ins := (2, .iload 3) :: (0, .new 70003) :: (1, .fadd) :: (2, .if_icmp .ge 36) :: (0, .new 70003) :: (2, .iload 3) :: (1, .faload) :: (2, .aload 0) :: (2, .iload 1) :: (2, .iload 2) :: (2, .invokevirtual 23172) :: s46_21
def s46_30 : List Ins := (2, .iinc 3 1) :: (2, .goto 2) :: []
def s46_36 : List Ins := (0, .new 70101) :: (2, .areturn) :: []
def tx_46 : Tx := [(0, 7, s46_0), (2, 15, s46_2), (30, 15, s46_30), (36, 0, s46_36)]
-- 47: WellPumps$Told.become(LWellPumps$Told;)V
def s47_0 : List Ins := (2, .aload 0) :: (2, .aload 1) :: (1, .getfield 512) :: (1, .putfield 512) :: (2, .aload 0) :: (2, .aload 1) :: (1, .getfield 513) :: (1, .putfield 513) :: (2, .aload 0) :: (2, .aload 1) :: (1, .getfield 515) :: (1, .putfield 515) :: (2, .aload 0) :: (2, .aload 1) :: (1, .getfield 516) :: (1, .putfield 516) :: (2, .aload 0) :: (2, .aload 1) :: (1, .getfield 517) :: (1, .putfield 517) :: (2, .aload 0) :: (2, .aload 1) :: (1, .getfield 521) :: (1, .putfield 521) :: (2, .aload 0) :: (2, .aload 1) :: (1, .getfield 522) :: (1, .putfield 522) :: (2, .aload 0) :: (2, .aload 1) :: (1, .getfield 524) :: (1, .putfield 524) :: (2, .aload 0) :: (2, .aload 1) :: (1, .getfield 526) :: (1, .putfield 526) :: (2, .aload 0) :: (2, .aload 1) :: (1, .getfield 528) :: (1, .putfield 528) :: (2, .aload 1) :: (1, .checkcast 514) :: (0, .ldc 0) :: (2, .aload 0) :: (1, .checkcast 514) :: (0, .ldc 0) :: (2, .aload 0) :: (1, .checkcast 514) :: (1, .arraylength) :: (1, .monitorenter) :: (2, .aload 1) :: (1, .checkcast 518) :: (0, .ldc 0) :: (2, .aload 0) :: (1, .checkcast 518) :: (0, .ldc 0) :: (2, .aload 0) :: (1, .checkcast 518) :: (1, .arraylength) :: (1, .monitorenter) :: (2, .aload 1) :: (1, .checkcast 519) :: (0, .ldc 0) :: (2, .aload 0) :: (1, .checkcast 519) :: (0, .ldc 0) :: (2, .aload 0) :: (1, .checkcast 519) :: (1, .arraylength) :: (1, .monitorenter) :: (2, .aload 1) :: (1, .checkcast 520) :: (0, .ldc 0) :: (2, .aload 0) :: (1, .checkcast 520) :: (0, .ldc 0) :: (2, .aload 0) :: (1, .checkcast 520) :: (1, .arraylength) :: (1, .monitorenter) :: (2, .aload 1) :: (1, .checkcast 523) :: (0, .ldc 0) :: (2, .aload 0) :: (1, .checkcast 523) :: (0, .ldc 0) :: (2, .aload 0) :: (1, .checkcast 523) :: (1, .arraylength) :: (1, .monitorenter) :: (2, .aload 1) :: (1, .checkcast 525) :: (0, .ldc 0) :: (2, .aload 0) :: (1, .checkcast 525) :: (0, .ldc 0) :: (2, .aload 0) :: (1, .checkcast 525) :: (1, .arraylength) :: (1, .nop) :: (2, .aload 1) :: (1, .checkcast 527) :: (0, .ldc 0) :: (2, .aload 0) :: (1, .checkcast 527) :: (0, .ldc 0) :: (2, .aload 0) :: (1, .checkcast 527) :: (1, .arraylength) :: (1, .monitorenter) :: (2, .aload 1) :: (1, .checkcast 529) :: (0, .ldc 0) :: (2, .aload 0) :: (1, .checkcast 529) :: (0, .ldc 0) :: (2, .aload 0) :: (1, .checkcast 529) :: (1, .arraylength) :: (1, .monitorexit) :: (2, .aload 1) :: (1, .checkcast 530) :: (0, .ldc 0) :: (2, .aload 0) :: (1, .checkcast 530) :: (0, .ldc 0) :: (2, .aload 0) :: (1, .checkcast 530) :: (1, .arraylength) :: (1, .monitorenter) :: (2, .return_) :: []
def tx_47 : Tx := [(0, 3, s47_0)]
-- 48: WellPumps$Told.addFarm(IIII)I
def s48_0 : List Ins := (2, .aload 0) :: (1, .getfield 517) :: (0, .ldc 4) :: (0, .imul) :: (2, .istore 5) :: (2, .aload 0) :: (1, .checkcast 518) :: (2, .iload 5) :: (0, .ldc 1) :: (0, .iadd) :: (2, .iload 1) :: (1, .iastore) :: (2, .aload 0) :: (1, .checkcast 518) :: (2, .iload 5) :: (0, .ldc 2) :: (0, .iadd) :: (2, .iload 2) :: (1, .iastore) :: (2, .aload 0) :: (1, .checkcast 518) :: (2, .iload 5) :: (0, .ldc 3) :: (0, .iadd) :: (2, .iload 3) :: (1, .iastore) :: (2, .aload 0) :: (1, .checkcast 519) :: (2, .aload 0) :: (1, .getfield 517) :: (2, .iload 4) :: (1, .iastore) :: (2, .aload 0) :: (1, .checkcast 520) :: (2, .aload 0) :: (1, .getfield 517) :: (0, .ldc_w 1) :: (1, .iastore) :: (2, .aload 0) :: (0, .dup) :: (1, .getfield 517) :: (0, .ldc 1) :: (0, .iadd) :: (1, .putfield 517) :: (2, .aload 0) :: (1, .getfield 517) :: (0, .ldc 1) :: (0, .isub) :: (2, .ireturn) :: []
def tx_48 : Tx := [(0, 31, s48_0)]
-- 49: WellPumps$Told.addRule(IIIII)I
def s49_0 : List Ins := (2, .aload 0) :: (1, .getfield 521) :: (0, .ldc 5) :: (0, .imul) :: (2, .istore 6) :: (2, .aload 0) :: (1, .checkcast 523) :: (2, .iload 6) :: (0, .ldc 0) :: (0, .iadd) :: (2, .iload 1) :: (1, .iastore) :: (2, .aload 0) :: (1, .checkcast 523) :: (2, .iload 6) :: (0, .ldc 1) :: (0, .iadd) :: (2, .iload 2) :: (1, .iastore) :: (2, .aload 0) :: (1, .checkcast 523) :: (2, .iload 6) :: (0, .ldc 2) :: (0, .iadd) :: (2, .iload 3) :: (1, .iastore) :: (2, .aload 0) :: (1, .checkcast 523) :: (2, .iload 6) :: (0, .ldc 3) :: (0, .iadd) :: (2, .iload 4) :: (1, .iastore) :: (2, .aload 0) :: (1, .checkcast 523) :: (2, .iload 6) :: (0, .ldc 4) :: (0, .iadd) :: (2, .iload 5) :: (1, .iastore) :: (2, .aload 0) :: (0, .dup) :: (1, .getfield 521) :: (0, .ldc 1) :: (0, .iadd) :: (1, .putfield 521) :: (2, .aload 0) :: (1, .getfield 521) :: (0, .ldc 1) :: (0, .isub) :: (2, .ireturn) :: []
def tx_49 : Tx := [(0, 63, s49_0)]
-- 50: WellPumps$Told.addDraw([J)I
def s50_0 : List Ins := (2, .aload 1) :: (0, .ldc 0) :: (2, .aload 0) :: (1, .checkcast 525) :: (2, .aload 0) :: (1, .getfield 524) :: (0, .ldc 7) :: (0, .imul) :: (0, .ldc 2) :: (0, .imul) :: (0, .ldc 14) :: (1, .nop) :: (2, .aload 0) :: (0, .dup) :: (1, .getfield 524) :: (0, .ldc 1) :: (0, .iadd) :: (1, .putfield 524) :: (2, .aload 0) :: (1, .getfield 524) :: (0, .ldc 1) :: (0, .isub) :: (2, .ireturn) :: []
def tx_50 : Tx := [(0, 3, s50_0)]
-- 51: WellPumps$Told.addBreak(III)I
def s51_0 : List Ins := (2, .aload 0) :: (1, .getfield 526) :: (0, .ldc 3) :: (0, .imul) :: (2, .istore 4) :: (2, .aload 0) :: (1, .checkcast 527) :: (2, .iload 4) :: (2, .iload 1) :: (1, .iastore) :: (2, .aload 0) :: (1, .checkcast 527) :: (2, .iload 4) :: (0, .ldc 1) :: (0, .iadd) :: (2, .iload 2) :: (1, .iastore) :: (2, .aload 0) :: (1, .checkcast 527) :: (2, .iload 4) :: (0, .ldc 2) :: (0, .iadd) :: (2, .iload 3) :: (1, .iastore) :: (2, .aload 0) :: (0, .dup) :: (1, .getfield 526) :: (0, .ldc 1) :: (0, .iadd) :: (1, .putfield 526) :: (2, .aload 0) :: (1, .getfield 526) :: (2, .ireturn) :: []
def tx_51 : Tx := [(0, 15, s51_0)]
-- 52: WellPumps$Told.allParts()I
def s52_0 : List Ins := (2, .aload 0) :: (1, .checkcast 514) :: (0, .ldc 0) :: (1, .iaload) :: (2, .aload 0) :: (1, .checkcast 514) :: (0, .ldc 1) :: (1, .iaload) :: (0, .iadd) :: (2, .aload 0) :: (1, .checkcast 514) :: (0, .ldc 2) :: (1, .iaload) :: (0, .iadd) :: (2, .aload 0) :: (1, .checkcast 514) :: (0, .ldc 3) :: (1, .iaload) :: (0, .iadd) :: (2, .ireturn) :: []
def tx_52 : Tx := [(0, 1, s52_0)]
-- 53: WellPumps$Told.ruleNumber(II)I
def s53_0 : List Ins := (2, .aload 0) :: (1, .checkcast 523) :: (2, .iload 1) :: (0, .ldc 5) :: (0, .imul) :: (2, .iload 2) :: (0, .iadd) :: (1, .iaload) :: (2, .ireturn) :: []
def tx_53 : Tx := [(0, 7, s53_0)]
-- 54: WellPumps$Told.numberBy(IIII)I
def s54_0 : List Ins := (2, .iload 1) :: (2, .ifCond .lt 12) :: (2, .iload 1) :: (2, .aload 0) :: (1, .getfield 524) :: (2, .if_icmp .lt 14) :: (2, .jsr 12) :: []
def s54_12 : List Ins := (0, .ldc 0) :: (2, .ireturn) :: []
def s54_36 : List Ins := (2, .istore 6) :: (2, .aload 0) :: (1, .checkcast 525) :: (2, .iload 5) :: (1, .laload) :: (2, .iload 6) :: (0, .lushr) :: (0, .ldc2_w 1) :: (0, .land) :: (2, .aload 0) :: (1, .checkcast 525) :: (2, .iload 5) :: (0, .ldc 1) :: (0, .iadd) :: (1, .laload) :: (2, .iload 6) :: (0, .lushr) :: (0, .ldc2_w 1) :: (0, .land) :: (0, .ldc 1) :: (0, .lshl) :: (0, .lor) :: (0, .l2i) :: (2, .ireturn) :: []
def s54_14 : List Ins := (2, .iload 1) :: (0, .ldc 7) :: (0, .imul) :: (2, .aload 0) :: (1, .getfield 512) :: (0, .iadd) :: (0, .ldc 1) :: (0, .isub) :: (0, .ldc 2) :: (0, .imul) :: (2, .istore 5) :: (2, .iload 2) :: (2, .iload 3) :: (2, .iload 4) :: (2, .invokevirtual 9731) :: s54_36
def tx_54 : Tx := [(0, 31, s54_0), (12, 0, s54_12), (14, 31, s54_14)]
-- 55: WellPumps$Trip.begin(IIZ)V
def s55_28 : List Ins := (2, .aload 0) :: (0, .ldc_w 1) :: (1, .putfield 583) :: (2, .aload 0) :: (0, .ldc_w 1) :: (1, .putfield 584) :: (2, .aload 0) :: (2, .aload 0) :: (1, .fload 577) :: (1, .checkcast 530) :: (0, .ldc 1) :: (1, .iaload) :: (1, .putfield 585) :: (2, .aload 0) :: (0, .ldc 0) :: (1, .putfield 586) :: (2, .return_) :: []
def s55_0 : List Ins := (2, .aload 0) :: (2, .iload 1) :: (1, .putfield 578) :: (2, .aload 0) :: (2, .iload 2) :: (1, .putfield 579) :: (2, .aload 0) :: (2, .iload 3) :: (1, .putstatic 580) :: (2, .aload 0) :: (0, .ldc 0) :: (1, .putstatic 581) :: (2, .aload 0) :: (1, .checkcast 582) :: (0, .ldc 0) :: (2, .invokevirtual 119298) :: s55_28
def tx_55 : Tx := [(0, 15, s55_0)]
-- 56: WellPumps$Trip.pass(I)V
def s56_0 : List Ins := (2, .aload 0) :: (1, .getfield 581) :: (2, .ifCond .eq 20) :: (2, .aload 0) :: (1, .getfield 584) :: (0, .ldc_w 1) :: (2, .if_icmp .ne 20) :: (2, .aload 0) :: (2, .iload 1) :: (1, .putfield 584) :: (2, .jsr 20) :: []
def s56_20 : List Ins := (2, .aload 0) :: (1, .fload 576) :: (2, .aload 0) :: (1, .getfield 578) :: (2, .aload 0) :: (1, .getfield 581) :: (2, .ifCond .eq 39) :: (0, .ldc 1) :: (2, .goto 40) :: []
def s56_39 : List Ins := (0, .ldc 0) :: (2, .jsr 40) :: []
def s56_60 : List Ins := (0, .ldc 0) :: (2, .istore 3) :: (2, .jsr 62) :: []
def s56_48 : List Ins := (2, .istore 2) :: (2, .aload 0) :: (1, .fload 576) :: (2, .aload 0) :: (1, .getfield 578) :: (2, .invokevirtual 35506) :: s56_60
def s56_43 : List Ins := (2, .aload 0) :: (2, .iload 1) :: (2, .invokevirtual 29346) :: s56_48
def s56_40 : List Ins := (2, .invokevirtual 34483) :: s56_43
def s56_92 : List Ins := (0, .iadd) :: (1, .iastore) :: (2, .iinc 3 1) :: (2, .goto 62) :: []
def s56_62 : List Ins := (2, .iload 3) :: (2, .aload 0) :: (1, .fload 576) :: (1, .getfield 642) :: (2, .if_icmp .ge 100) :: (2, .aload 0) :: (1, .checkcast 582) :: (2, .iload 3) :: (0, .dup2) :: (1, .iaload) :: (2, .aload 0) :: (1, .fload 576) :: (2, .iload 3) :: (2, .aload 0) :: (1, .getfield 578) :: (2, .invokevirtual 36019) :: s56_92
def s56_124 : List Ins := (1, .putfield 578) :: (2, .aload 0) :: (1, .getfield 578) :: (2, .ifCond .ne 147) :: (2, .aload 0) :: (1, .getfield 583) :: (0, .ldc_w 1) :: (2, .if_icmp .ne 147) :: (2, .aload 0) :: (2, .iload 1) :: (1, .putfield 583) :: (2, .jsr 147) :: []
def s56_121 : List Ins := (2, .invokevirtual 37043) :: s56_124
def s56_104 : List Ins := (2, .aload 0) :: (2, .aload 0) :: (1, .fload 576) :: (2, .aload 0) :: (1, .fload 576) :: (1, .getfield 653) :: (2, .aload 0) :: (2, .iload 1) :: (2, .invokevirtual 30370) :: s56_121
def s56_100 : List Ins := (2, .aload 0) :: (2, .invokevirtual 29857) :: s56_104
def s56_147 : List Ins := (2, .aload 0) :: (0, .dup) :: (1, .getfield 581) :: (2, .iload 2) :: (0, .ior) :: (1, .putstatic 581) :: (2, .return_) :: []
def tx_56 : Tx := [(0, 3, s56_0), (20, 3, s56_20), (39, 3, s56_39), (40, 3, s56_40), (62, 15, s56_62), (100, 7, s56_100), (147, 5, s56_147)]
-- 57: WellPumps$Trip.breakBy(I)Z
def s57_0 : List Ins := (0, .ldc 0) :: (2, .istore 2) :: (0, .ldc 0) :: (2, .istore 3) :: (2, .jsr 4) :: []
def s57_4 : List Ins := (2, .iload 3) :: (2, .aload 0) :: (1, .fload 577) :: (1, .getfield 526) :: (2, .if_icmp .ge 86) :: (2, .aload 0) :: (1, .fload 577) :: (1, .checkcast 527) :: (2, .iload 3) :: (0, .ldc 3) :: (0, .imul) :: (0, .ldc 1) :: (0, .iadd) :: (1, .iaload) :: (2, .istore 4) :: (2, .aload 0) :: (1, .fload 577) :: (1, .checkcast 527) :: (2, .iload 3) :: (0, .ldc 3) :: (0, .imul) :: (1, .iaload) :: (2, .iload 1) :: (2, .if_icmp .ne 80) :: (2, .iload 4) :: (2, .aload 0) :: (1, .fload 576) :: (1, .getfield 642) :: (2, .if_icmp .ge 80) :: (2, .aload 0) :: (1, .fload 576) :: (1, .checkcast 651) :: (2, .iload 4) :: (2, .aload 0) :: (1, .fload 577) :: (1, .checkcast 527) :: (2, .iload 3) :: (0, .ldc 3) :: (0, .imul) :: (0, .ldc 2) :: (0, .iadd) :: (1, .iaload) :: (1, .iastore) :: (2, .jsr 80) :: []
def s57_80 : List Ins := (2, .iinc 3 1) :: (2, .goto 4) :: []
def s57_86 : List Ins := (0, .ldc 0) :: (2, .istore 3) :: (2, .jsr 88) :: []
def s57_122 : List Ins := (2, .if_icmp .le 129) :: (0, .ldc 1) :: (2, .goto 130) :: []
def s57_88 : List Ins := (2, .iload 3) :: (2, .aload 0) :: (1, .fload 576) :: (1, .getfield 642) :: (2, .if_icmp .ge 138) :: (2, .iload 2) :: (2, .aload 0) :: (1, .fload 576) :: (1, .checkcast 651) :: (2, .iload 3) :: (1, .iaload) :: (2, .aload 0) :: (1, .fload 576) :: (2, .iload 3) :: (2, .aload 0) :: (1, .getfield 578) :: (0, .ldc 0) :: (2, .invokevirtual 32436) :: s57_122
def s57_129 : List Ins := (0, .ldc 0) :: (2, .jsr 130) :: []
def s57_130 : List Ins := (0, .ior) :: (2, .istore 2) :: (2, .iinc 3 1) :: (2, .goto 88) :: []
def s57_138 : List Ins := (2, .iload 2) :: (2, .freturn) :: []
def tx_57 : Tx := [(0, 3, s57_0), (4, 15, s57_4), (80, 15, s57_80), (86, 5, s57_86), (88, 13, s57_88), (129, 9, s57_129), (130, 9, s57_130), (138, 4, s57_138)]
-- 58: WellPumps$Trip.passBeside()V
def s58_0 : List Ins := (2, .aload 0) :: (1, .fload 577) :: (1, .checkcast 530) :: (0, .ldc 0) :: (1, .iaload) :: (2, .istore 1) :: (2, .aload 0) :: (2, .iload 1) :: (2, .aload 0) :: (1, .getfield 585) :: (2, .aload 0) :: (1, .fload 576) :: (1, .getfield 654) :: (2, .ifCond .eq 30) :: (0, .ldc 1) :: (2, .goto 31) :: []
def s58_30 : List Ins := (0, .ldc 0) :: (2, .jsr 31) :: []
def s58_54 : List Ins := (2, .istore 2) :: (2, .aload 0) :: (0, .dup) :: (1, .getfield 585) :: (2, .iload 2) :: (0, .isub) :: (1, .putfield 585) :: (2, .aload 0) :: (0, .dup) :: (1, .getfield 586) :: (2, .iload 2) :: (0, .iadd) :: (1, .putfield 586) :: (2, .return_) :: []
def s58_35 : List Ins := (1, .putfield 585) :: (2, .aload 0) :: (1, .fload 577) :: (1, .checkcast 530) :: (0, .ldc 2) :: (1, .iaload) :: (2, .aload 0) :: (1, .getfield 585) :: (2, .invokevirtual 118274) :: s58_54
def s58_31 : List Ins := (0, .iadd) :: (2, .invokevirtual 118274) :: s58_35
def tx_58 : Tx := [(0, 1, s58_0), (30, 1, s58_30), (31, 1, s58_31)]
-- 59: WellPumps$Trip.rainOf(I)I
def s59_0 : List Ins := (2, .aload 0) :: (1, .getfield 580) :: (2, .ifCond .eq 32) :: (2, .iload 1) :: (2, .aload 0) :: (1, .fload 577) :: (1, .getfield 528) :: (2, .if_icmp .ge 30) :: (2, .aload 0) :: (1, .fload 577) :: (1, .checkcast 529) :: (2, .iload 1) :: (1, .baload) :: (2, .goto 31) :: []
def s59_30 : List Ins := (0, .ldc 0) :: (2, .jsr 31) :: []
def s59_31 : List Ins := (2, .ireturn) :: []
def s59_32 : List Ins := (2, .aload 0) :: (2, .aload 0) :: (1, .getfield 579) :: (0, .ldc 1103515245) :: (0, .imul) :: (0, .ldc 12345) :: (0, .iadd) :: (1, .putfield 579) :: (2, .aload 0) :: (1, .fload 576) :: (1, .getfield 646) :: (2, .ifCond .le 79) :: (2, .aload 0) :: (1, .getfield 579) :: (0, .ldc 16) :: (0, .iushr) :: (0, .ldc 32767) :: (0, .iand) :: (2, .aload 0) :: (1, .fload 576) :: (1, .getfield 646) :: (0, .irem) :: (2, .goto 80) :: []
def s59_79 : List Ins := (0, .ldc 0) :: (2, .jsr 80) :: []
def s59_80 : List Ins := (2, .istore 2) :: (0, .ldc 0) :: (2, .istore 3) :: (2, .jsr 83) :: []
def s59_83 : List Ins := (2, .iload 3) :: (0, .ldc 3) :: (2, .if_icmp .ge 119) :: (2, .iload 2) :: (2, .aload 0) :: (1, .fload 576) :: (1, .checkcast 647) :: (2, .iload 3) :: (1, .iaload) :: (2, .if_icmp .lt 119) :: (2, .iload 2) :: (2, .aload 0) :: (1, .fload 576) :: (1, .checkcast 647) :: (2, .iload 3) :: (1, .iaload) :: (0, .isub) :: (2, .istore 2) :: (2, .iinc 3 1) :: (2, .goto 83) :: []
def s59_119 : List Ins := (2, .iload 3) :: (2, .ireturn) :: []
def tx_59 : Tx := [(0, 3, s59_0), (30, 0, s59_30), (31, 0, s59_31), (32, 1, s59_32), (79, 1, s59_79), (80, 1, s59_80), (83, 13, s59_83), (119, 8, s59_119)]
-- 60: WellPumps$Trip.tells(I)I
def s60_0 : List Ins := (2, .iload 1) :: (2, .tableswitch 77 3 7 #[36, 41, 46, 51, 72]) :: []
def s60_36 : List Ins := (2, .aload 0) :: (1, .getfield 578) :: (2, .ireturn) :: []
def s60_41 : List Ins := (2, .aload 0) :: (1, .getfield 583) :: (2, .ireturn) :: []
def s60_46 : List Ins := (2, .aload 0) :: (1, .getfield 584) :: (2, .ireturn) :: []
def s60_51 : List Ins := (2, .aload 0) :: (1, .fload 577) :: (1, .checkcast 530) :: (0, .ldc 0) :: (1, .iaload) :: (2, .ifCond .ne 67) :: (0, .ldc_w 1) :: (2, .goto 71) :: []
def s60_67 : List Ins := (2, .aload 0) :: (1, .getfield 585) :: (2, .jsr 71) :: []
def s60_71 : List Ins := (2, .ireturn) :: []
def s60_72 : List Ins := (2, .aload 0) :: (1, .getfield 586) :: (2, .ireturn) :: []
def s60_77 : List Ins := (2, .iload 1) :: (2, .ifCond .lt 95) :: (2, .iload 1) :: (0, .ldc 3) :: (2, .if_icmp .ge 95) :: (2, .aload 0) :: (1, .checkcast 582) :: (2, .iload 1) :: (1, .iaload) :: (2, .goto 96) :: []
def s60_95 : List Ins := (0, .ldc 0) :: (2, .jsr 96) :: []
def s60_96 : List Ins := (2, .ireturn) :: []
def tx_60 : Tx := [(0, 3, s60_0), (36, 1, s60_36), (41, 1, s60_41), (46, 1, s60_46), (51, 1, s60_51), (67, 1, s60_67), (71, 0, s60_71), (72, 1, s60_72), (77, 3, s60_77), (95, 0, s60_95), (96, 0, s60_96)]
-- 61: WellPumps$Year.open(LWellPumps$Told;)V
def s61_71 : List Ins := (0, .ldc 0) :: (2, .istore 2) :: (2, .jsr 73) :: []
def s61_45 : List Ins := (1, .putfield 646) :: (2, .aload 1) :: (1, .checkcast 514) :: (0, .ldc 0) :: (2, .aload 0) :: (1, .checkcast 647) :: (0, .ldc 0) :: (0, .ldc 4) :: (1, .monitorenter) :: (2, .aload 0) :: (2, .aload 1) :: (2, .aload 1) :: (1, .getfield 522) :: (2, .invokevirtual 33459) :: s61_71
def s61_0 : List Ins := (2, .aload 0) :: (2, .aload 1) :: (1, .getfield 512) :: (1, .putfield 640) :: (2, .aload 0) :: (2, .aload 1) :: (1, .getfield 513) :: (1, .putfield 641) :: (2, .aload 0) :: (2, .aload 1) :: (1, .getfield 517) :: (1, .putfield 642) :: (2, .aload 0) :: (2, .aload 1) :: (1, .getfield 515) :: (1, .putfield 644) :: (2, .aload 0) :: (2, .aload 1) :: (1, .getfield 516) :: (1, .putfield 645) :: (2, .aload 0) :: (2, .aload 1) :: (2, .invokevirtual 26769) :: s61_45
def s61_73 : List Ins := (2, .iload 2) :: (2, .aload 0) :: (1, .getfield 640) :: (2, .if_icmp .gt 145) :: (0, .ldc 0) :: (2, .istore 3) :: (2, .jsr 83) :: []
def s61_83 : List Ins := (2, .iload 3) :: (2, .aload 0) :: (1, .getfield 642) :: (2, .if_icmp .ge 139) :: (0, .ldc 0) :: (2, .istore 4) :: (2, .jsr 94) :: []
def s61_126 : List Ins := (1, .iastore) :: (2, .iinc 4 1) :: (2, .goto 94) :: []
def s61_110 : List Ins := (2, .iload 3) :: (0, .iadd) :: (2, .aload 1) :: (2, .aload 1) :: (1, .checkcast 520) :: (2, .iload 3) :: (1, .iaload) :: (2, .iload 3) :: (2, .iload 2) :: (2, .iload 4) :: (2, .invokevirtual 27797) :: s61_126
def s61_94 : List Ins := (2, .iload 4) :: (0, .ldc 2) :: (2, .if_icmp .ge 133) :: (2, .aload 0) :: (1, .checkcast 650) :: (2, .iload 2) :: (2, .iload 4) :: (2, .invokevirtual 31746) :: s61_110
def s61_133 : List Ins := (2, .iinc 3 1) :: (2, .goto 83) :: []
def s61_139 : List Ins := (2, .iinc 2 1) :: (2, .goto 73) :: []
def s61_145 : List Ins := (2, .return_) :: []
def tx_61 : Tx := [(0, 3, s61_0), (73, 7, s61_73), (83, 15, s61_83), (94, 31, s61_94), (133, 15, s61_133), (139, 7, s61_139), (145, 0, s61_145)]
-- 62: WellPumps$Year.wantedAt(II)I
def s62_0 : List Ins := (2, .iload 1) :: (0, .ldc 8) :: (0, .imul) :: (2, .iload 0) :: (0, .iadd) :: (0, .ldc 3) :: (0, .imul) :: (2, .ireturn) :: []
def tx_62 : Tx := [(0, 3, s62_0)]
-- 63: WellPumps$Year.wantedBy(III)I
def s63_9 : List Ins := (2, .iload 1) :: (0, .iadd) :: (1, .iaload) :: (2, .ireturn) :: []
def s63_0 : List Ins := (2, .aload 0) :: (1, .checkcast 650) :: (2, .iload 2) :: (2, .iload 3) :: (2, .invokevirtual 31746) :: s63_9
def tx_63 : Tx := [(0, 15, s63_0)]
-- 64: WellPumps$Year.promise(LWellPumps$Told;II)V
def s64_0 : List Ins := (0, .ldc 0) :: (2, .istore 4) :: (2, .jsr 3) :: []
def s64_3 : List Ins := (2, .iload 4) :: (2, .aload 0) :: (1, .getfield 640) :: (2, .if_icmp .gt 75) :: (0, .ldc 0) :: (2, .istore 5) :: (2, .jsr 15) :: []
def s64_62 : List Ins := (1, .iastore) :: (2, .iinc 5 1) :: (2, .goto 15) :: []
def s64_49 : List Ins := (2, .iload 5) :: (0, .iadd) :: (2, .aload 1) :: (2, .iload 3) :: (2, .iload 5) :: (2, .iload 4) :: (0, .ldc 1) :: (2, .invokevirtual 27797) :: s64_62
def s64_34 : List Ins := (2, .iload 5) :: (0, .iadd) :: (2, .iload 2) :: (1, .iastore) :: (2, .aload 0) :: (1, .checkcast 650) :: (2, .iload 4) :: (0, .ldc 1) :: (2, .invokevirtual 31746) :: s64_49
def s64_15 : List Ins := (2, .iload 5) :: (2, .aload 0) :: (1, .getfield 642) :: (2, .if_icmp .ge 69) :: (2, .aload 0) :: (1, .checkcast 650) :: (2, .iload 4) :: (0, .ldc 0) :: (2, .invokevirtual 31746) :: s64_34
def s64_69 : List Ins := (2, .iinc 4 1) :: (2, .goto 3) :: []
def s64_75 : List Ins := (2, .return_) :: []
def tx_64 : Tx := [(0, 15, s64_0), (3, 31, s64_3), (15, 63, s64_15), (69, 31, s64_69), (75, 0, s64_75)]
-- 65: WellPumps$Year.ruleWith(LWellPumps$Told;I)V
def s65_7 : List Ins := (1, .putfield 643) :: (0, .ldc 0) :: (2, .istore 3) :: (2, .jsr 12) :: []
def s65_0 : List Ins := (2, .aload 0) :: (2, .aload 1) :: (2, .iload 2) :: (0, .ldc 1) :: (2, .invokevirtual 27283) :: s65_7
def s65_33 : List Ins := (2, .iinc 3 1) :: (2, .goto 12) :: []
def s65_12 : List Ins := (2, .iload 3) :: (2, .aload 0) :: (1, .getfield 642) :: (2, .if_icmp .ge 39) :: (2, .aload 0) :: (2, .aload 1) :: (2, .iload 2) :: (2, .iload 3) :: (2, .aload 1) :: (1, .checkcast 519) :: (2, .iload 3) :: (1, .iaload) :: (2, .invokevirtual 33973) :: s65_33
def s65_39 : List Ins := (2, .return_) :: []
def tx_65 : Tx := [(0, 7, s65_0), (12, 15, s65_12), (39, 0, s65_39)]
-- 66: WellPumps$Year.priceWith(LWellPumps$Told;III)V
def s66_28 : List Ins := (0, .imul) :: (2, .istore 7) :: (0, .ldc 0) :: (2, .istore 8) :: (2, .jsr 34) :: []
def s66_22 : List Ins := (2, .aload 1) :: (2, .iload 2) :: (0, .ldc 4) :: (2, .invokevirtual 27283) :: s66_28
def s66_14 : List Ins := (2, .istore 6) :: (2, .aload 1) :: (2, .iload 2) :: (0, .ldc 3) :: (2, .invokevirtual 27283) :: s66_22
def s66_6 : List Ins := (2, .istore 5) :: (2, .aload 1) :: (2, .iload 2) :: (0, .ldc 2) :: (2, .invokevirtual 27283) :: s66_14
def s66_0 : List Ins := (2, .aload 1) :: (2, .iload 2) :: (0, .ldc 0) :: (2, .invokevirtual 27283) :: s66_6
def s66_34 : List Ins := (2, .iload 8) :: (2, .aload 0) :: (1, .getfield 640) :: (2, .if_icmp .gt 147) :: (0, .ldc 0) :: (2, .istore 9) :: (2, .jsr 46) :: []
def s66_130 : List Ins := (2, .iload 7) :: (0, .imul) :: (0, .isub) :: (1, .iastore) :: (2, .iinc 9 1) :: (2, .goto 46) :: []
def s66_46 : List Ins := (2, .iload 9) :: (0, .ldc 4) :: (2, .if_icmp .ge 141) :: (2, .iload 3) :: (0, .ldc 8) :: (0, .imul) :: (2, .iload 8) :: (0, .iadd) :: (0, .ldc 4) :: (0, .imul) :: (2, .iload 9) :: (0, .iadd) :: (2, .istore 10) :: (2, .aload 0) :: (1, .checkcast 649) :: (2, .iload 10) :: (0, .ldc 4) :: (2, .aload 1) :: (1, .checkcast 518) :: (2, .iload 3) :: (0, .ldc 4) :: (0, .imul) :: (2, .iload 9) :: (0, .iadd) :: (1, .iaload) :: (2, .iload 9) :: (2, .iload 4) :: (0, .imul) :: (2, .aload 0) :: (1, .getfield 640) :: (2, .iload 8) :: (0, .isub) :: (0, .imul) :: (0, .isub) :: (0, .imul) :: (1, .iastore) :: (2, .aload 0) :: (1, .checkcast 648) :: (2, .iload 10) :: (2, .aload 0) :: (1, .checkcast 649) :: (2, .iload 10) :: (1, .iaload) :: (0, .ldc 4) :: (2, .iload 9) :: (0, .imul) :: (2, .iload 5) :: (0, .imul) :: (0, .isub) :: (0, .ldc 0) :: (2, .iload 9) :: (2, .iload 6) :: (0, .isub) :: (2, .invokevirtual 117762) :: s66_130
def s66_141 : List Ins := (2, .iinc 8 1) :: (2, .goto 34) :: []
def s66_147 : List Ins := (2, .return_) :: []
def tx_66 : Tx := [(0, 31, s66_0), (34, 507, s66_34), (46, 1019, s66_46), (141, 507, s66_141), (147, 0, s66_147)]
-- 67: WellPumps$Year.wish(II)V
def s67_9 : List Ins := (2, .aload 0) :: (1, .checkcast 651) :: (0, .ldc 0) :: (0, .ldc 3) :: (1, .monitorenter) :: (2, .return_) :: []
def s67_0 : List Ins := (2, .aload 0) :: (1, .checkcast 650) :: (2, .iload 1) :: (2, .iload 2) :: (2, .invokevirtual 31746) :: s67_9
def tx_67 : Tx := [(0, 7, s67_0)]
-- 68: WellPumps$Year.pumpBy(II)V
def s68_11 : List Ins := (2, .return_) :: []
def s68_6 : List Ins := (2, .aload 0) :: (2, .iload 1) :: (2, .invokevirtual 35506) :: s68_11
def s68_0 : List Ins := (2, .aload 0) :: (2, .iload 1) :: (2, .iload 2) :: (2, .invokevirtual 34483) :: s68_6
def tx_68 : Tx := [(0, 7, s68_0)]
-- 69: WellPumps$Year.pump(I)V
def s69_10 : List Ins := (2, .istore 2) :: (2, .aload 0) :: (2, .iload 1) :: (1, .putfield 653) :: (0, .ldc 0) :: (2, .istore 3) :: (2, .jsr 18) :: []
def s69_0 : List Ins := (0, .ldc 0) :: (2, .iload 1) :: (2, .aload 0) :: (1, .getfield 643) :: (0, .isub) :: (2, .invokevirtual 117762) :: s69_10
def s69_41 : List Ins := (1, .iastore) :: (2, .iload 2) :: (2, .aload 0) :: (1, .checkcast 652) :: (2, .iload 3) :: (1, .iaload) :: (0, .isub) :: (2, .istore 2) :: (2, .aload 0) :: (0, .dup) :: (1, .getfield 653) :: (2, .aload 0) :: (1, .checkcast 652) :: (2, .iload 3) :: (1, .iaload) :: (0, .isub) :: (1, .putfield 653) :: (2, .iinc 3 1) :: (2, .goto 18) :: []
def s69_18 : List Ins := (2, .iload 3) :: (2, .aload 0) :: (1, .getfield 642) :: (2, .if_icmp .ge 72) :: (2, .aload 0) :: (1, .checkcast 652) :: (2, .iload 3) :: (2, .aload 0) :: (1, .checkcast 651) :: (2, .iload 3) :: (1, .iaload) :: (2, .iload 2) :: (2, .invokevirtual 118274) :: s69_41
def s69_72 : List Ins := (2, .aload 0) :: (2, .aload 0) :: (1, .getfield 641) :: (0, .ldc_w 1) :: (2, .if_icmp .eq 96) :: (2, .aload 0) :: (1, .getfield 653) :: (2, .aload 0) :: (1, .getfield 641) :: (2, .if_icmp .le 96) :: (0, .ldc 1) :: (2, .goto 97) :: []
def s69_96 : List Ins := (0, .ldc 0) :: (2, .jsr 97) :: []
def s69_97 : List Ins := (1, .putstatic 654) :: (2, .aload 0) :: (1, .getfield 654) :: (2, .ifCond .eq 117) :: (2, .aload 0) :: (0, .dup) :: (1, .getfield 653) :: (0, .ldc 1) :: (0, .isub) :: (1, .putfield 653) :: (2, .jsr 117) :: []
def s69_117 : List Ins := (2, .return_) :: []
def tx_69 : Tx := [(0, 3, s69_0), (18, 13, s69_18), (72, 1, s69_72), (96, 1, s69_96), (97, 1, s69_97), (117, 0, s69_117)]
-- 70: WellPumps$Year.had(II)I
def s70_0 : List Ins := (2, .aload 0) :: (1, .checkcast 648) :: (2, .iload 1) :: (0, .ldc 8) :: (0, .imul) :: (2, .iload 2) :: (0, .iadd) :: (0, .ldc 4) :: (0, .imul) :: (2, .aload 0) :: (1, .checkcast 652) :: (2, .iload 1) :: (1, .iaload) :: (0, .iadd) :: (1, .iaload) :: (2, .ireturn) :: []
def tx_70 : Tx := [(0, 7, s70_0)]
-- 71: WellPumps$Year.hadPlain(II)I
def s71_0 : List Ins := (2, .aload 0) :: (1, .checkcast 649) :: (2, .iload 1) :: (0, .ldc 8) :: (0, .imul) :: (2, .iload 2) :: (0, .iadd) :: (0, .ldc 4) :: (0, .imul) :: (2, .aload 0) :: (1, .checkcast 652) :: (2, .iload 1) :: (1, .iaload) :: (0, .iadd) :: (1, .iaload) :: (2, .ireturn) :: []
def tx_71 : Tx := [(0, 7, s71_0)]
-- 72: WellPumps$Year.risen(II)I
def s72_10 : List Ins := (2, .ireturn) :: []
def s72_0 : List Ins := (2, .aload 0) :: (1, .getfield 640) :: (2, .iload 1) :: (2, .iload 2) :: (0, .iadd) :: (2, .invokevirtual 118274) :: s72_10
def tx_72 : Tx := [(0, 7, s72_0)]
-- 73: WellPumps$Year.partsTo(I)I
def s73_0 : List Ins := (0, .ldc 0) :: (2, .istore 2) :: (0, .ldc 0) :: (2, .istore 3) :: (2, .jsr 4) :: []
def s73_19 : List Ins := (2, .iload 1) :: (2, .if_icmp .ne 32) :: (2, .aload 0) :: (1, .checkcast 647) :: (2, .iload 3) :: (1, .iaload) :: (2, .goto 33) :: []
def s73_4 : List Ins := (2, .iload 3) :: (0, .ldc 4) :: (2, .if_icmp .ge 41) :: (2, .iload 2) :: (2, .aload 0) :: (2, .aload 0) :: (1, .getfield 653) :: (2, .iload 3) :: (2, .invokevirtual 37043) :: s73_19
def s73_32 : List Ins := (0, .ldc 0) :: (2, .jsr 33) :: []
def s73_33 : List Ins := (0, .iadd) :: (2, .istore 2) :: (2, .iinc 3 1) :: (2, .goto 4) :: []
def s73_41 : List Ins := (2, .iload 2) :: (2, .ireturn) :: []
def tx_73 : Tx := [(0, 3, s73_0), (4, 15, s73_4), (32, 11, s73_32), (33, 11, s73_33), (41, 4, s73_41)]
-- 74: WellPumps$Year.awaited([JII)J
def s74_0 : List Ins := (0, .ldc2_w 0) :: (2, .lstore 4) :: (0, .ldc 0) :: (2, .istore 6) :: (2, .jsr 6) :: []
def s74_31 : List Ins := (0, .iadd) :: (1, .saload) :: (0, .lmul) :: (0, .ladd) :: (2, .lstore 4) :: (2, .iinc 6 1) :: (2, .goto 6) :: []
def s74_6 : List Ins := (2, .iload 6) :: (0, .ldc 4) :: (2, .if_icmp .ge 43) :: (2, .lload 4) :: (2, .aload 0) :: (1, .checkcast 647) :: (2, .iload 6) :: (1, .iaload) :: (0, .i2l) :: (2, .aload 1) :: (2, .iload 2) :: (2, .aload 0) :: (2, .iload 3) :: (2, .iload 6) :: (2, .invokevirtual 37043) :: s74_31
def s74_43 : List Ins := (2, .lload 4) :: (2, .lreturn) :: []
def tx_74 : Tx := [(0, 15, s74_0), (6, 95, s74_6), (43, 16, s74_43)]
-- 75: WellPumps$Year.unpack(I)V
def s75_0 : List Ins := (0, .ldc 0) :: (2, .istore 2) :: (2, .jsr 2) :: []
def s75_21 : List Ins := (1, .iastore) :: (2, .iinc 2 1) :: (2, .goto 2) :: []
def s75_2 : List Ins := (2, .iload 2) :: (2, .aload 0) :: (1, .getfield 642) :: (2, .if_icmp .ge 28) :: (2, .aload 0) :: (1, .checkcast 651) :: (2, .iload 2) :: (2, .aload 0) :: (2, .iload 1) :: (2, .iload 2) :: (2, .invokevirtual 39091) :: s75_21
def s75_28 : List Ins := (2, .return_) :: []
def tx_75 : Tx := [(0, 3, s75_0), (2, 7, s75_2), (28, 0, s75_28)]
-- 76: WellPumps$Year.numberIn(II)I
def s76_6 : List Ins := (0, .ishr) :: (0, .ldc 3) :: (0, .iand) :: (2, .ireturn) :: []
def s76_0 : List Ins := (2, .iload 1) :: (2, .aload 0) :: (2, .iload 2) :: (2, .invokevirtual 39602) :: s76_6
def tx_76 : Tx := [(0, 7, s76_0)]
-- 77: WellPumps$Year.shiftOf(I)I
def s77_0 : List Ins := (0, .ldc 2) :: (2, .aload 0) :: (1, .getfield 642) :: (0, .ldc 1) :: (0, .isub) :: (2, .iload 1) :: (0, .isub) :: (0, .imul) :: (2, .ireturn) :: []
def tx_77 : Tx := [(0, 3, s77_0)]
-- 78: WellPumps$Year.ways()I
def s78_0 : List Ins := (0, .ldc 1) :: (0, .ldc 2) :: (2, .aload 0) :: (1, .getfield 642) :: (0, .imul) :: (0, .ishl) :: (2, .ireturn) :: []
def tx_78 : Tx := [(0, 1, s78_0)]
-- 79: WellPumps.feed(IIIII)I
def s79_0 : List Ins := (2, .aload 0) :: (1, .fload 704) :: (1, .getfield 385) :: (0, .ldc 380) :: (2, .if_icmp .le 15) :: (0, .ldc_w 1) :: (2, .ireturn) :: []
def s79_57 : List Ins := (2, .aload 0) :: (1, .fload 704) :: (1, .getfield 385) :: (2, .ireturn) :: []
def s79_48 : List Ins := (2, .aload 0) :: (1, .fload 704) :: (2, .iload 5) :: (2, .invokevirtual 22130) :: s79_57
def s79_39 : List Ins := (2, .aload 0) :: (1, .fload 704) :: (2, .iload 4) :: (2, .invokevirtual 22130) :: s79_48
def s79_31 : List Ins := (2, .aload 0) :: (1, .fload 704) :: (2, .iload 3) :: (2, .invokevirtual 22130) :: s79_39
def s79_23 : List Ins := (2, .aload 0) :: (1, .fload 704) :: (2, .iload 2) :: (2, .invokevirtual 22130) :: s79_31
def s79_15 : List Ins := (2, .aload 0) :: (1, .fload 704) :: (2, .iload 1) :: (2, .invokevirtual 22130) :: s79_23
def tx_79 : Tx := [(0, 63, s79_0), (15, 63, s79_15)]
-- 80: WellPumps.end(I)Z
def s80_0 : List Ins := (2, .iload 1) :: (2, .ifCond .lt 15) :: (2, .iload 1) :: (2, .aload 0) :: (1, .fload 704) :: (1, .getfield 385) :: (2, .if_icmp .le 17) :: (2, .jsr 15) :: []
def s80_15 : List Ins := (0, .ldc 0) :: (2, .freturn) :: []
def s80_17 : List Ins := (2, .aload 0) :: (1, .fload 704) :: (2, .iload 1) :: (1, .putfield 385) :: (0, .ldc 1) :: (2, .freturn) :: []
def tx_80 : Tx := [(0, 3, s80_0), (15, 0, s80_15), (17, 3, s80_17)]
-- 81: WellPumps.well(II)V
def s81_14 : List Ins := (2, .aload 0) :: (1, .fload 706) :: (2, .iload 1) :: (1, .putfield 512) :: (2, .aload 0) :: (1, .fload 706) :: (2, .iload 2) :: (1, .putfield 513) :: (2, .return_) :: []
def s81_7 : List Ins := (2, .iload 2) :: (0, .ldc_w 1) :: (0, .ldc 7) :: (2, .invokespecial 61443) :: s81_14
def s81_0 : List Ins := (2, .iload 1) :: (0, .ldc 1) :: (0, .ldc 7) :: (2, .invokespecial 61443) :: s81_7
def tx_81 : Tx := [(0, 7, s81_0)]
-- 82: WellPumps.rain(IIII)V
def s82_38 : List Ins := (2, .aload 0) :: (1, .fload 706) :: (1, .checkcast 514) :: (0, .ldc 0) :: (2, .iload 1) :: (1, .iastore) :: (2, .aload 0) :: (1, .fload 706) :: (1, .checkcast 514) :: (0, .ldc 1) :: (2, .iload 2) :: (1, .iastore) :: (2, .aload 0) :: (1, .fload 706) :: (1, .checkcast 514) :: (0, .ldc 2) :: (2, .iload 3) :: (1, .iastore) :: (2, .aload 0) :: (1, .fload 706) :: (1, .checkcast 514) :: (0, .ldc 3) :: (2, .iload 4) :: (1, .iastore) :: (2, .return_) :: []
def s82_25 : List Ins := (2, .iload 1) :: (2, .iload 2) :: (0, .iadd) :: (2, .iload 3) :: (0, .iadd) :: (2, .iload 4) :: (0, .iadd) :: (0, .ldc 1) :: (0, .ldc 4) :: (2, .invokespecial 61443) :: s82_38
def s82_18 : List Ins := (2, .iload 4) :: (0, .ldc 0) :: (0, .ldc 4) :: (2, .invokespecial 61443) :: s82_25
def s82_12 : List Ins := (2, .iload 3) :: (0, .ldc 0) :: (0, .ldc 4) :: (2, .invokespecial 61443) :: s82_18
def s82_6 : List Ins := (2, .iload 2) :: (0, .ldc 0) :: (0, .ldc 4) :: (2, .invokespecial 61443) :: s82_12
def s82_0 : List Ins := (2, .iload 1) :: (0, .ldc 0) :: (0, .ldc 4) :: (2, .invokespecial 61443) :: s82_6
def tx_82 : Tx := [(0, 31, s82_0)]
-- 83: WellPumps.years(II)V
def s83_14 : List Ins := (2, .aload 0) :: (1, .fload 706) :: (2, .iload 1) :: (1, .putfield 515) :: (2, .aload 0) :: (1, .fload 706) :: (2, .iload 2) :: (1, .putfield 516) :: (2, .return_) :: []
def s83_6 : List Ins := (2, .iload 1) :: (0, .ldc 1) :: (2, .iload 2) :: (0, .ldc 1) :: (0, .isub) :: (2, .invokespecial 61443) :: s83_14
def s83_0 : List Ins := (2, .iload 2) :: (0, .ldc 2) :: (0, .ldc 5) :: (2, .invokespecial 61443) :: s83_6
def tx_83 : Tx := [(0, 7, s83_0)]
-- 84: WellPumps.farm(IIII)I
def s84_52 : List Ins := (2, .ireturn) :: []
def s84_40 : List Ins := (2, .aload 0) :: (1, .fload 706) :: (2, .iload 1) :: (2, .iload 2) :: (2, .iload 3) :: (2, .iload 4) :: (2, .invokevirtual 24725) :: s84_52
def s84_29 : List Ins := (2, .aload 0) :: (1, .fload 706) :: (1, .getfield 517) :: (0, .ldc 3) :: (2, .invokespecial 61954) :: s84_40
def s84_21 : List Ins := (2, .iload 4) :: (0, .ldc 0) :: (0, .ldc 9) :: (2, .invokespecial 61443) :: s84_29
def s84_14 : List Ins := (2, .iload 3) :: (0, .ldc 0) :: (0, .ldc 99) :: (2, .invokespecial 61443) :: s84_21
def s84_7 : List Ins := (2, .iload 2) :: (0, .ldc 0) :: (0, .ldc 99) :: (2, .invokespecial 61443) :: s84_14
def s84_0 : List Ins := (2, .iload 1) :: (0, .ldc 0) :: (0, .ldc 99) :: (2, .invokespecial 61443) :: s84_7
def tx_84 : Tx := [(0, 31, s84_0)]
-- 85: WellPumps.rule(IIIII)I
def s85_60 : List Ins := (2, .ireturn) :: []
def s85_46 : List Ins := (2, .aload 0) :: (1, .fload 706) :: (2, .iload 1) :: (2, .iload 2) :: (2, .iload 3) :: (2, .iload 4) :: (2, .iload 5) :: (2, .invokevirtual 25238) :: s85_60
def s85_35 : List Ins := (2, .aload 0) :: (1, .fload 706) :: (1, .getfield 521) :: (0, .ldc 5) :: (2, .invokespecial 61954) :: s85_46
def s85_28 : List Ins := (2, .iload 5) :: (0, .ldc 0) :: (0, .ldc 4) :: (2, .invokespecial 61443) :: s85_35
def s85_20 : List Ins := (2, .iload 4) :: (0, .ldc 0) :: (0, .ldc 99) :: (2, .invokespecial 61443) :: s85_28
def s85_14 : List Ins := (2, .iload 3) :: (0, .ldc 0) :: (0, .ldc 3) :: (2, .invokespecial 61443) :: s85_20
def s85_7 : List Ins := (2, .iload 2) :: (0, .ldc 0) :: (0, .ldc 7) :: (2, .invokespecial 61443) :: s85_14
def s85_0 : List Ins := (2, .iload 1) :: (0, .ldc 0) :: (0, .ldc 9) :: (2, .invokespecial 61443) :: s85_7
def tx_85 : Tx := [(0, 63, s85_0)]
-- 86: WellPumps.force(I)Z
def s86_11 : List Ins := (2, .aload 0) :: (1, .fload 706) :: (1, .getfield 522) :: (2, .iload 1) :: (2, .if_icmp .eq 26) :: (0, .ldc 1) :: (2, .goto 27) :: []
def s86_0 : List Ins := (2, .iload 1) :: (2, .aload 0) :: (1, .fload 706) :: (1, .getfield 521) :: (2, .invokespecial 60930) :: s86_11
def s86_26 : List Ins := (0, .ldc 0) :: (2, .jsr 27) :: []
def s86_27 : List Ins := (2, .istore 2) :: (2, .aload 0) :: (1, .fload 706) :: (2, .iload 1) :: (1, .putfield 522) :: (2, .iload 2) :: (2, .freturn) :: []
def tx_86 : Tx := [(0, 3, s86_0), (26, 3, s86_26), (27, 3, s86_27)]
-- 87: WellPumps.draw()I
def s87_8 : List Ins := (1, .putfield 715) :: (2, .aload 0) :: (1, .fload 704) :: (0, .ldc 0) :: (1, .putfield 385) :: (2, .aload 0) :: (1, .getfield 715) :: (0, .ldc_w 1) :: (2, .if_icmp .eq 37) :: (2, .ldc2_w 0) :: []
def s87_0 : List Ins := (2, .aload 0) :: (2, .aload 0) :: (1, .fload 705) :: (2, .invokevirtual 10305) :: s87_8
def s87_63 : List Ins := (2, .ireturn) :: []
def s87_49 : List Ins := (2, .aload 0) :: (1, .fload 706) :: (2, .aload 0) :: (1, .fload 705) :: (1, .checkcast 202) :: (2, .invokevirtual 25746) :: s87_63
def s87_37 : List Ins := (2, .aload 0) :: (1, .fload 706) :: (1, .getfield 524) :: (0, .ldc 6) :: (2, .invokespecial 61954) :: s87_49
def tx_87 : Tx := [(0, 1, s87_0), (37, 1, s87_37)]
-- 88: WellPumps.fault()I
def s88_0 : List Ins := (2, .aload 0) :: (1, .getfield 715) :: (2, .ireturn) :: []
def tx_88 : Tx := [(0, 1, s88_0)]
-- 89: WellPumps.by(II)Z
def s89_21 : List Ins := (2, .aload 0) :: (1, .fload 706) :: (1, .checkcast 520) :: (2, .iload 1) :: (1, .iaload) :: (2, .iload 2) :: (2, .if_icmp .eq 38) :: (0, .ldc 1) :: (2, .goto 39) :: []
def s89_5 : List Ins := (2, .iload 2) :: (0, .ldc_w 1) :: (2, .if_icmp .eq 21) :: (2, .iload 2) :: (2, .aload 0) :: (1, .fload 706) :: (1, .getfield 524) :: (2, .invokespecial 60930) :: s89_21
def s89_0 : List Ins := (2, .aload 0) :: (2, .iload 1) :: (2, .invokespecial 60098) :: s89_5
def s89_38 : List Ins := (0, .ldc 0) :: (2, .jsr 39) :: []
def s89_39 : List Ins := (2, .istore 3) :: (2, .aload 0) :: (1, .fload 706) :: (1, .checkcast 520) :: (2, .iload 1) :: (2, .iload 2) :: (1, .iastore) :: (2, .iload 3) :: (2, .freturn) :: []
def tx_89 : Tx := [(0, 7, s89_0), (21, 7, s89_21), (38, 7, s89_38), (39, 7, s89_39)]
-- 90: WellPumps.broken(III)I
def s90_18 : List Ins := (2, .aload 0) :: (1, .fload 706) :: (1, .getfield 526) :: (0, .ldc 6) :: (2, .if_icmp .lt 32) :: (0, .ldc_w 1) :: (2, .ireturn) :: []
def s90_12 : List Ins := (2, .iload 3) :: (0, .ldc 0) :: (0, .ldc 3) :: (2, .invokespecial 61443) :: s90_18
def s90_5 : List Ins := (2, .iload 1) :: (0, .ldc 0) :: (0, .ldc 99) :: (2, .invokespecial 61443) :: s90_12
def s90_0 : List Ins := (2, .aload 0) :: (2, .iload 2) :: (2, .invokespecial 60098) :: s90_5
def s90_42 : List Ins := (2, .ireturn) :: []
def s90_32 : List Ins := (2, .aload 0) :: (1, .fload 706) :: (2, .iload 1) :: (2, .iload 2) :: (2, .iload 3) :: (2, .invokevirtual 26260) :: s90_42
def tx_90 : Tx := [(0, 15, s90_0), (32, 15, s90_32)]
-- 91: WellPumps.row()I
def s91_0 : List Ins := (2, .aload 0) :: (1, .fload 704) :: (1, .getfield 385) :: (2, .istore 1) :: (2, .aload 0) :: (1, .fload 704) :: (0, .ldc 0) :: (1, .putfield 385) :: (0, .ldc 0) :: (2, .istore 2) :: (2, .jsr 18) :: []
def s91_37 : List Ins := (2, .iinc 2 1) :: (2, .goto 18) :: []
def s91_18 : List Ins := (2, .iload 2) :: (2, .iload 1) :: (2, .if_icmp .ge 43) :: (2, .aload 0) :: (1, .fload 704) :: (1, .checkcast 384) :: (2, .iload 2) :: (1, .baload) :: (0, .ldc 0) :: (0, .ldc 3) :: (2, .invokespecial 61443) :: s91_37
def s91_43 : List Ins := (2, .aload 0) :: (1, .fload 706) :: (2, .iload 1) :: (1, .putfield 528) :: (2, .aload 0) :: (1, .fload 704) :: (1, .checkcast 384) :: (0, .ldc 0) :: (2, .aload 0) :: (1, .fload 706) :: (1, .checkcast 529) :: (0, .ldc 0) :: (2, .iload 1) :: (1, .monitorexit) :: (2, .iload 1) :: (2, .ireturn) :: []
def tx_91 : Tx := [(0, 1, s91_0), (18, 7, s91_18), (43, 3, s91_43)]
-- 92: WellPumps.beside(III)V
def s92_19 : List Ins := (2, .aload 0) :: (1, .fload 706) :: (1, .checkcast 530) :: (0, .ldc 0) :: (2, .iload 1) :: (1, .iastore) :: (2, .aload 0) :: (1, .fload 706) :: (1, .checkcast 530) :: (0, .ldc 1) :: (2, .iload 2) :: (1, .iastore) :: (2, .aload 0) :: (1, .fload 706) :: (1, .checkcast 530) :: (0, .ldc 2) :: (2, .iload 3) :: (1, .iastore) :: (2, .return_) :: []
def s92_13 : List Ins := (2, .iload 3) :: (0, .ldc 0) :: (0, .ldc 3) :: (2, .invokespecial 61443) :: s92_19
def s92_7 : List Ins := (2, .iload 2) :: (0, .ldc 0) :: (2, .iload 1) :: (2, .invokespecial 61443) :: s92_13
def s92_0 : List Ins := (2, .iload 1) :: (0, .ldc 1) :: (0, .ldc 7) :: (2, .invokespecial 61443) :: s92_7
def tx_92 : Tx := [(0, 15, s92_0)]
-- 93: WellPumps.image()V
def s93_11 : List Ins := (2, .aload 0) :: (0, .ldc 1) :: (1, .putstatic 714) :: (2, .return_) :: []
def s93_0 : List Ins := (2, .aload 0) :: (1, .fload 707) :: (2, .aload 0) :: (1, .fload 706) :: (2, .invokevirtual 24210) :: s93_11
def tx_93 : Tx := [(0, 1, s93_0)]
-- 94: WellPumps.back()Z
def s94_0 : List Ins := (2, .aload 0) :: (1, .getfield 714) :: (2, .ifCond .ne 9) :: (0, .ldc 0) :: (2, .freturn) :: []
def s94_20 : List Ins := (0, .ldc 1) :: (2, .freturn) :: []
def s94_9 : List Ins := (2, .aload 0) :: (1, .fload 706) :: (2, .aload 0) :: (1, .fload 707) :: (2, .invokevirtual 24210) :: s94_20
def tx_94 : Tx := [(0, 1, s94_0), (9, 1, s94_9)]
-- 95: WellPumps.count(I)I
def s95_0 : List Ins := (2, .iload 1) :: (2, .tableswitch 121 0 8 #[52, 60, 68, 76, 84, 92, 100, 108, 116]) :: []
def s95_52 : List Ins := (2, .aload 0) :: (1, .fload 706) :: (1, .getfield 517) :: (2, .ireturn) :: []
def s95_60 : List Ins := (2, .aload 0) :: (1, .fload 706) :: (1, .getfield 524) :: (2, .ireturn) :: []
def s95_68 : List Ins := (2, .aload 0) :: (1, .fload 706) :: (1, .getfield 521) :: (2, .ireturn) :: []
def s95_76 : List Ins := (2, .aload 0) :: (1, .fload 706) :: (1, .getfield 522) :: (2, .ireturn) :: []
def s95_84 : List Ins := (2, .aload 0) :: (1, .fload 706) :: (1, .getfield 526) :: (2, .ireturn) :: []
def s95_92 : List Ins := (2, .aload 0) :: (1, .fload 706) :: (1, .getfield 528) :: (2, .ireturn) :: []
def s95_107 : List Ins := (2, .ireturn) :: []
def s95_100 : List Ins := (2, .aload 0) :: (1, .fload 706) :: (2, .invokevirtual 26769) :: s95_107
def s95_108 : List Ins := (2, .aload 0) :: (1, .fload 706) :: (1, .getfield 512) :: (2, .ireturn) :: []
def s95_120 : List Ins := (2, .ireturn) :: []
def s95_116 : List Ins := (2, .aload 0) :: (2, .invokevirtual 63169) :: s95_120
def s95_121 : List Ins := (0, .ldc_w 1) :: (2, .ireturn) :: []
def tx_95 : Tx := [(0, 3, s95_0), (52, 1, s95_52), (60, 1, s95_60), (68, 1, s95_68), (76, 1, s95_76), (84, 1, s95_84), (92, 1, s95_92), (100, 1, s95_100), (108, 1, s95_108), (116, 1, s95_116), (121, 0, s95_121)]
-- 96: WellPumps.wants(IIZZ)I
def s96_16 : List Ins := (2, .iload 4) :: (2, .ifCond .eq 33) :: (2, .aload 0) :: (1, .fload 708) :: (1, .checkcast 652) :: (2, .iload 1) :: (1, .iaload) :: (2, .goto 42) :: []
def s96_10 : List Ins := (2, .aload 0) :: (2, .iload 2) :: (2, .iload 3) :: (2, .invokevirtual 62659) :: s96_16
def s96_5 : List Ins := (2, .aload 0) :: (2, .iload 2) :: (2, .invokespecial 60610) :: s96_10
def s96_0 : List Ins := (2, .aload 0) :: (2, .iload 1) :: (2, .invokespecial 60098) :: s96_5
def s96_33 : List Ins := (2, .aload 0) :: (1, .fload 708) :: (1, .checkcast 651) :: (2, .iload 1) :: (1, .iaload) :: (2, .jsr 42) :: []
def s96_42 : List Ins := (2, .ireturn) :: []
def tx_96 : Tx := [(0, 31, s96_0), (33, 3, s96_33), (42, 0, s96_42)]
-- 97: WellPumps.gains(IIZ)I
def s97_25 : List Ins := (2, .ireturn) :: []
def s97_16 : List Ins := (2, .aload 0) :: (1, .fload 708) :: (2, .iload 1) :: (2, .iload 2) :: (2, .invokevirtual 36019) :: s97_25
def s97_10 : List Ins := (2, .aload 0) :: (2, .iload 2) :: (2, .iload 3) :: (2, .invokevirtual 62659) :: s97_16
def s97_5 : List Ins := (2, .aload 0) :: (2, .iload 2) :: (2, .invokespecial 60610) :: s97_10
def s97_0 : List Ins := (2, .aload 0) :: (2, .iload 1) :: (2, .invokespecial 60098) :: s97_5
def tx_97 : Tx := [(0, 15, s97_0)]
-- 98: WellPumps.next(IZI)I
def s98_24 : List Ins := (2, .ireturn) :: []
def s98_16 : List Ins := (2, .aload 0) :: (1, .fload 708) :: (2, .iload 3) :: (2, .invokevirtual 37554) :: s98_24
def s98_10 : List Ins := (2, .aload 0) :: (2, .iload 1) :: (2, .iload 2) :: (2, .invokevirtual 62659) :: s98_16
def s98_5 : List Ins := (2, .aload 0) :: (2, .iload 3) :: (2, .invokespecial 60610) :: s98_10
def s98_0 : List Ins := (2, .aload 0) :: (2, .iload 1) :: (2, .invokespecial 60610) :: s98_5
def tx_98 : Tx := [(0, 15, s98_0)]
-- 99: WellPumps.worth(IIZZ)J
def s99_21 : List Ins := (2, .iload 3) :: (2, .ifCond .eq 35) :: (2, .aload 0) :: (1, .fload 709) :: (1, .fload 130) :: (2, .goto 42) :: []
def s99_10 : List Ins := (2, .aload 0) :: (1, .fload 708) :: (2, .aload 0) :: (1, .fload 706) :: (2, .invokevirtual 31410) :: s99_21
def s99_5 : List Ins := (2, .aload 0) :: (2, .iload 2) :: (2, .invokespecial 60610) :: s99_10
def s99_0 : List Ins := (2, .aload 0) :: (2, .iload 1) :: (2, .invokespecial 60098) :: s99_5
def s99_35 : List Ins := (2, .aload 0) :: (1, .fload 709) :: (1, .fload 129) :: (2, .jsr 42) :: []
def s99_42 : List Ins := (2, .astore 5) :: (2, .aload 5) :: (2, .iload 3) :: (2, .ifCond .eq 54) :: (0, .ldc 1) :: (2, .goto 55) :: []
def s99_54 : List Ins := (0, .ldc 0) :: (2, .jsr 55) :: []
def s99_109 : List Ins := (2, .lreturn) :: []
def s99_83 : List Ins := (2, .aload 5) :: (1, .checkcast 8) :: (2, .iload 1) :: (0, .ldc 8) :: (0, .imul) :: (2, .iload 2) :: (0, .iadd) :: (1, .laload) :: (0, .ldc2_w 4) :: (2, .aload 5) :: (1, .dload 9) :: (0, .lmul) :: (2, .iload 4) :: (2, .invokevirtual 64003) :: s99_109
def s99_77 : List Ins := (2, .aload 5) :: (2, .iload 1) :: (2, .invokevirtual 2066) :: s99_83
def s99_58 : List Ins := (2, .aload 5) :: (2, .aload 0) :: (1, .fload 708) :: (1, .getfield 644) :: (2, .aload 0) :: (1, .fload 708) :: (1, .getfield 645) :: (2, .invokevirtual 1555) :: s99_77
def s99_55 : List Ins := (2, .invokevirtual 18) :: s99_58
def tx_99 : Tx := [(0, 31, s99_0), (35, 31, s99_35), (42, 31, s99_42), (54, 55, s99_54), (55, 55, s99_55)]
-- 100: WellPumps.judge()I
def s100_39 : List Ins := (2, .ireturn) :: []
def s100_18 : List Ins := (2, .aload 0) :: (1, .fload 709) :: (2, .aload 0) :: (1, .fload 708) :: (1, .getfield 644) :: (2, .aload 0) :: (1, .fload 708) :: (1, .getfield 645) :: (2, .invokevirtual 8243) :: s100_39
def s100_11 : List Ins := (2, .aload 0) :: (1, .fload 709) :: (2, .invokevirtual 7729) :: s100_18
def s100_0 : List Ins := (2, .aload 0) :: (1, .fload 708) :: (2, .aload 0) :: (1, .fload 706) :: (2, .invokevirtual 31410) :: s100_11
def tx_100 : Tx := [(0, 1, s100_0)]
-- 101: WellPumps.pacts(I)I
def s101_22 : List Ins := (0, .ldc 0) :: (2, .istore 2) :: (0, .ldc 0) :: (2, .istore 3) :: (2, .jsr 26) :: []
def s101_11 : List Ins := (2, .aload 0) :: (1, .fload 708) :: (2, .aload 0) :: (1, .fload 706) :: (2, .invokevirtual 31410) :: s101_22
def s101_0 : List Ins := (2, .iload 1) :: (2, .aload 0) :: (1, .fload 706) :: (1, .getfield 524) :: (2, .invokespecial 60930) :: s101_11
def s101_72 : List Ins := (0, .ldc_w 1) :: (2, .if_icmp .ne 82) :: (2, .iload 2) :: (0, .ldc 1) :: (2, .iload 3) :: (0, .ishl) :: (0, .ior) :: (2, .istore 2) :: (2, .jsr 82) :: []
def s101_51 : List Ins := (2, .aload 0) :: (1, .fload 709) :: (2, .aload 0) :: (1, .fload 708) :: (1, .getfield 644) :: (2, .aload 0) :: (1, .fload 708) :: (1, .getfield 645) :: (2, .invokevirtual 8243) :: s101_72
def s101_44 : List Ins := (2, .aload 0) :: (1, .fload 709) :: (2, .invokevirtual 7729) :: s101_51
def s101_26 : List Ins := (2, .iload 3) :: (0, .ldc 4) :: (2, .if_icmp .ge 88) :: (2, .aload 0) :: (1, .fload 708) :: (2, .aload 0) :: (1, .fload 706) :: (2, .iload 3) :: (2, .iload 1) :: (2, .invokevirtual 32948) :: s101_44
def s101_82 : List Ins := (2, .iinc 3 1) :: (2, .goto 26) :: []
def s101_88 : List Ins := (2, .iload 2) :: (2, .ireturn) :: []
def tx_101 : Tx := [(0, 3, s101_0), (26, 15, s101_26), (82, 15, s101_82), (88, 4, s101_88)]
-- 102: WellPumps.weak()I
def s102_18 : List Ins := (0, .ldc 0) :: (2, .istore 1) :: (2, .jsr 20) :: []
def s102_11 : List Ins := (2, .aload 0) :: (1, .fload 709) :: (2, .invokevirtual 7729) :: s102_18
def s102_0 : List Ins := (2, .aload 0) :: (1, .fload 708) :: (2, .aload 0) :: (1, .fload 706) :: (2, .invokevirtual 31410) :: s102_11
def s102_49 : List Ins := (2, .istore 2) :: (2, .iload 2) :: (0, .ldc_w 1) :: (2, .if_icmp .eq 80) :: (0, .ldc 100) :: (0, .new 70002) :: (2, .iload 1) :: (1, .dastore) :: (0, .imul) :: (0, .ldc 10) :: (0, .new 70002) :: (2, .iload 1) :: (0, .ldc 1) :: (0, .iadd) :: (1, .dastore) :: (0, .imul) :: (0, .iadd) :: (2, .iload 2) :: (0, .ldc 10) :: (0, .irem) :: (0, .iadd) :: (2, .ireturn) :: []
def s102_20 : List Ins := (2, .iload 1) :: (0, .ldc 1) :: (0, .iadd) :: (0, .new 70002) :: (1, .dsub) :: (2, .if_icmp .ge 86) :: (2, .aload 0) :: (1, .fload 709) :: (0, .new 70002) :: (2, .iload 1) :: (1, .dastore) :: (0, .new 70002) :: (2, .iload 1) :: (0, .ldc 1) :: (0, .iadd) :: (1, .dastore) :: (2, .invokevirtual 8243) :: s102_49
def s102_80 : List Ins := (2, .iinc 1 2) :: (2, .goto 20) :: []
def s102_86 : List Ins := (0, .ldc_w 1) :: (2, .ireturn) :: []
def tx_102 : Tx := [(0, 1, s102_0), (20, 3, s102_20), (80, 3, s102_80), (86, 0, s102_86)]
-- 103: WellPumps.answer(II)I
def s103_30 : List Ins := (2, .ireturn) :: []
def s103_21 : List Ins := (2, .aload 0) :: (1, .fload 710) :: (2, .iload 1) :: (2, .iload 2) :: (2, .invokevirtual 3107) :: s103_30
def s103_10 : List Ins := (2, .aload 0) :: (1, .fload 708) :: (2, .aload 0) :: (1, .fload 706) :: (2, .invokevirtual 31410) :: s103_21
def s103_5 : List Ins := (2, .aload 0) :: (2, .iload 2) :: (2, .invokespecial 60610) :: s103_10
def s103_0 : List Ins := (2, .aload 0) :: (2, .iload 1) :: (2, .invokespecial 60098) :: s103_5
def tx_103 : Tx := [(0, 7, s103_0)]
-- 104: WellPumps.edge(II)I
def s104_40 : List Ins := (2, .istore 4) :: (0, .ldc 2) :: (2, .istore 5) :: (2, .jsr 45) :: []
def s104_21 : List Ins := (2, .aload 0) :: (1, .fload 706) :: (1, .checkcast 519) :: (2, .iload 1) :: (1, .iaload) :: (2, .istore 3) :: (2, .aload 0) :: (1, .fload 710) :: (2, .iload 1) :: (2, .iload 2) :: (2, .invokevirtual 3107) :: s104_40
def s104_10 : List Ins := (2, .aload 0) :: (1, .fload 708) :: (2, .aload 0) :: (1, .fload 706) :: (2, .invokevirtual 31410) :: s104_21
def s104_5 : List Ins := (2, .aload 0) :: (2, .iload 2) :: (2, .invokespecial 60610) :: s104_10
def s104_0 : List Ins := (2, .aload 0) :: (2, .iload 1) :: (2, .invokespecial 60098) :: s104_5
def s104_45 : List Ins := (2, .iload 5) :: (0, .ldc 20) :: (2, .if_icmp .ge 132) :: (2, .iload 5) :: (0, .ldc 2) :: (0, .irem) :: (2, .ifCond .ne 68) :: (2, .iload 3) :: (2, .iload 5) :: (0, .ldc 2) :: (0, .idiv) :: (0, .isub) :: (2, .goto 74) :: []
def s104_68 : List Ins := (2, .iload 3) :: (2, .iload 5) :: (0, .ldc 2) :: (0, .idiv) :: (0, .iadd) :: (2, .jsr 74) :: []
def s104_118 : List Ins := (2, .iload 4) :: (2, .if_icmp .eq 126) :: (2, .iload 6) :: (2, .ireturn) :: []
def s104_109 : List Ins := (2, .aload 0) :: (1, .fload 710) :: (2, .iload 1) :: (2, .iload 2) :: (2, .invokevirtual 3107) :: s104_118
def s104_74 : List Ins := (2, .istore 6) :: (2, .iload 6) :: (2, .ifCond .lt 126) :: (2, .iload 6) :: (0, .ldc 10) :: (2, .if_icmp .ge 126) :: (2, .aload 0) :: (1, .fload 708) :: (2, .aload 0) :: (1, .fload 706) :: (2, .aload 0) :: (1, .fload 706) :: (1, .getfield 522) :: (2, .iload 1) :: (2, .iload 6) :: (2, .invokevirtual 33973) :: s104_109
def s104_126 : List Ins := (2, .iinc 5 1) :: (2, .goto 45) :: []
def s104_132 : List Ins := (0, .ldc_w 1) :: (2, .ireturn) :: []
def tx_104 : Tx := [(0, 7, s104_0), (45, 63, s104_45), (68, 63, s104_68), (74, 63, s104_74), (126, 63, s104_126), (132, 0, s104_132)]
-- 105: WellPumps.owner(II)I
def s105_31 : List Ins := (2, .ireturn) :: []
def s105_14 : List Ins := (2, .aload 0) :: (1, .fload 708) :: (2, .aload 0) :: (1, .fload 710) :: (1, .checkcast 71) :: (2, .iload 2) :: (1, .iaload) :: (2, .iload 1) :: (2, .invokevirtual 39091) :: s105_31
def s105_10 : List Ins := (2, .aload 0) :: (2, .invokevirtual 63681) :: s105_14
def s105_5 : List Ins := (2, .aload 0) :: (2, .iload 2) :: (2, .invokespecial 60610) :: s105_10
def s105_0 : List Ins := (2, .aload 0) :: (2, .iload 1) :: (2, .invokespecial 60098) :: s105_5
def tx_105 : Tx := [(0, 7, s105_0)]
-- 106: WellPumps.owned(IZ)J
def s106_39 : List Ins := (2, .lreturn) :: []
def s106_9 : List Ins := (2, .aload 0) :: (1, .fload 710) :: (1, .fload 65) :: (1, .checkcast 8) :: (2, .iload 1) :: (1, .laload) :: (0, .ldc2_w 4) :: (2, .aload 0) :: (1, .fload 710) :: (1, .fload 65) :: (1, .dload 9) :: (0, .lmul) :: (2, .iload 2) :: (2, .invokevirtual 64003) :: s106_39
def s106_5 : List Ins := (2, .aload 0) :: (2, .invokevirtual 63681) :: s106_9
def s106_0 : List Ins := (2, .aload 0) :: (2, .iload 1) :: (2, .invokespecial 60610) :: s106_5
def tx_106 : Tx := [(0, 7, s106_0)]
-- 107: WellPumps.lost(I)J
def s107_47 : List Ins := (0, .ldc2_w 0) :: (2, .lstore 3) :: (0, .ldc 0) :: (2, .istore 5) :: (2, .jsr 52) :: []
def s107_29 : List Ins := (2, .aload 2) :: (2, .aload 0) :: (1, .fload 708) :: (1, .getfield 644) :: (2, .aload 0) :: (1, .fload 708) :: (1, .getfield 645) :: (2, .invokevirtual 1555) :: s107_47
def s107_16 : List Ins := (2, .aload 0) :: (1, .fload 709) :: (1, .fload 129) :: (2, .astore 2) :: (2, .aload 2) :: (0, .ldc 0) :: (2, .invokevirtual 18) :: s107_29
def s107_5 : List Ins := (2, .aload 0) :: (1, .fload 708) :: (2, .aload 0) :: (1, .fload 706) :: (2, .invokevirtual 31410) :: s107_16
def s107_0 : List Ins := (2, .aload 0) :: (2, .iload 1) :: (2, .invokespecial 60610) :: s107_5
def s107_70 : List Ins := (2, .lload 3) :: (2, .aload 2) :: (1, .checkcast 8) :: (2, .iload 5) :: (0, .ldc 8) :: (0, .imul) :: (2, .iload 1) :: (0, .iadd) :: (1, .laload) :: (0, .ladd) :: (2, .lstore 3) :: (2, .iinc 5 1) :: (2, .goto 52) :: []
def s107_52 : List Ins := (2, .iload 5) :: (2, .aload 0) :: (1, .fload 708) :: (1, .getfield 642) :: (2, .if_icmp .ge 91) :: (2, .aload 2) :: (2, .iload 5) :: (2, .invokevirtual 2066) :: s107_70
def s107_133 : List Ins := (2, .lreturn) :: []
def s107_95 : List Ins := (2, .aload 0) :: (1, .fload 710) :: (1, .fload 65) :: (1, .checkcast 8) :: (2, .iload 1) :: (1, .laload) :: (0, .ldc2_w 4) :: (2, .aload 0) :: (1, .fload 710) :: (1, .fload 65) :: (1, .dload 9) :: (0, .lmul) :: (2, .lload 3) :: (0, .ldc2_w 4) :: (2, .aload 2) :: (1, .dload 9) :: (0, .lmul) :: (2, .invokevirtual 65540) :: s107_133
def s107_91 : List Ins := (2, .aload 0) :: (2, .invokevirtual 63681) :: s107_95
def tx_107 : Tx := [(0, 3, s107_0), (52, 47, s107_52), (91, 15, s107_91)]
-- 108: WellPumps.near(III)I
def s108_38 : List Ins := (2, .ireturn) :: []
def s108_28 : List Ins := (2, .aload 0) :: (1, .fload 710) :: (2, .iload 1) :: (2, .iload 2) :: (2, .iload 3) :: (2, .invokevirtual 7204) :: s108_38
def s108_17 : List Ins := (2, .aload 0) :: (1, .fload 708) :: (2, .aload 0) :: (1, .fload 706) :: (2, .invokevirtual 31410) :: s108_28
def s108_10 : List Ins := (2, .iload 3) :: (0, .ldc 1) :: (0, .ldc 8) :: (2, .invokespecial 61443) :: s108_17
def s108_5 : List Ins := (2, .aload 0) :: (2, .iload 2) :: (2, .invokespecial 60610) :: s108_10
def s108_0 : List Ins := (2, .aload 0) :: (2, .iload 1) :: (2, .invokespecial 60098) :: s108_5
def tx_108 : Tx := [(0, 15, s108_0)]
-- 109: WellPumps.rest(III)I
def s109_52 : List Ins := (2, .ireturn) :: []
def s109_37 : List Ins := (2, .aload 0) :: (1, .fload 708) :: (2, .aload 0) :: (1, .fload 711) :: (1, .getfield 261) :: (2, .iload 1) :: (2, .invokevirtual 39091) :: s109_52
def s109_28 : List Ins := (2, .aload 0) :: (1, .fload 711) :: (2, .iload 2) :: (2, .iload 3) :: (2, .invokevirtual 19027) :: s109_37
def s109_17 : List Ins := (2, .aload 0) :: (1, .fload 708) :: (2, .aload 0) :: (1, .fload 706) :: (2, .invokevirtual 31410) :: s109_28
def s109_10 : List Ins := (2, .iload 3) :: (0, .ldc 1) :: (0, .ldc 8) :: (2, .invokespecial 61443) :: s109_17
def s109_5 : List Ins := (2, .aload 0) :: (2, .iload 2) :: (2, .invokespecial 60610) :: s109_10
def s109_0 : List Ins := (2, .aload 0) :: (2, .iload 1) :: (2, .invokespecial 60098) :: s109_5
def tx_109 : Tx := [(0, 15, s109_0)]
-- 110: WellPumps.restWorth(IIIZ)J
def s110_67 : List Ins := (2, .lreturn) :: []
def s110_37 : List Ins := (2, .aload 0) :: (1, .fload 711) :: (1, .checkcast 257) :: (2, .iload 1) :: (0, .ldc 8) :: (0, .imul) :: (2, .iload 2) :: (0, .iadd) :: (1, .laload) :: (0, .ldc2_w 4) :: (2, .aload 0) :: (1, .fload 711) :: (1, .dload 260) :: (0, .lmul) :: (2, .iload 4) :: (2, .invokevirtual 64003) :: s110_67
def s110_28 : List Ins := (2, .aload 0) :: (1, .fload 711) :: (2, .iload 2) :: (2, .iload 3) :: (2, .invokevirtual 19027) :: s110_37
def s110_17 : List Ins := (2, .aload 0) :: (1, .fload 708) :: (2, .aload 0) :: (1, .fload 706) :: (2, .invokevirtual 31410) :: s110_28
def s110_10 : List Ins := (2, .iload 3) :: (0, .ldc 1) :: (0, .ldc 8) :: (2, .invokespecial 61443) :: s110_17
def s110_5 : List Ins := (2, .aload 0) :: (2, .iload 2) :: (2, .invokespecial 60610) :: s110_10
def s110_0 : List Ins := (2, .aload 0) :: (2, .iload 1) :: (2, .invokespecial 60098) :: s110_5
def tx_110 : Tx := [(0, 31, s110_0)]
-- 111: WellPumps.nearest(II)I
def s111_23 : List Ins := (0, .ldc_w 1) :: (2, .istore 3) :: (0, .ldc2_w 0) :: (2, .lstore 4) :: (0, .ldc 0) :: (2, .istore 6) :: (2, .jsr 31) :: []
def s111_12 : List Ins := (2, .aload 0) :: (1, .fload 708) :: (2, .aload 0) :: (1, .fload 706) :: (2, .invokevirtual 31410) :: s111_23
def s111_5 : List Ins := (2, .iload 2) :: (0, .ldc 1) :: (0, .ldc 8) :: (2, .invokespecial 61443) :: s111_12
def s111_0 : List Ins := (2, .aload 0) :: (2, .iload 1) :: (2, .invokespecial 60610) :: s111_5
def s111_65 : List Ins := (2, .aload 0) :: (1, .fload 711) :: (1, .checkcast 257) :: (0, .ldc 24) :: (2, .iload 1) :: (0, .iadd) :: (1, .laload) :: (2, .lstore 7) :: (2, .iload 3) :: (0, .ldc_w 1) :: (2, .if_icmp .eq 92) :: (2, .lload 7) :: (2, .lload 4) :: (0, .lcmp) :: (2, .ifCond .le 99) :: (2, .jsr 92) :: []
def s111_56 : List Ins := (2, .aload 0) :: (1, .fload 711) :: (2, .iload 1) :: (2, .iload 2) :: (2, .invokevirtual 19027) :: s111_65
def s111_31 : List Ins := (2, .iload 6) :: (2, .aload 0) :: (1, .fload 706) :: (1, .getfield 521) :: (2, .if_icmp .ge 105) :: (2, .aload 0) :: (1, .fload 708) :: (2, .aload 0) :: (1, .fload 706) :: (2, .iload 6) :: (2, .invokevirtual 33459) :: s111_56
def s111_92 : List Ins := (2, .iload 6) :: (2, .istore 3) :: (2, .lload 7) :: (2, .lstore 4) :: (2, .jsr 99) :: []
def s111_99 : List Ins := (2, .iinc 6 1) :: (2, .goto 31) :: []
def s111_105 : List Ins := (2, .iload 3) :: (2, .ireturn) :: []
def tx_111 : Tx := [(0, 7, s111_0), (31, 95, s111_31), (92, 199, s111_92), (99, 95, s111_99), (105, 8, s111_105)]
-- 112: WellPumps.dry(II)J
def s112_32 : List Ins := (2, .lreturn) :: []
def s112_23 : List Ins := (2, .aload 0) :: (1, .fload 712) :: (2, .iload 1) :: (2, .iload 2) :: (2, .invokevirtual 21091) :: s112_32
def s112_12 : List Ins := (2, .aload 0) :: (1, .fload 708) :: (2, .aload 0) :: (1, .fload 706) :: (2, .invokevirtual 31410) :: s112_23
def s112_5 : List Ins := (2, .iload 2) :: (0, .ldc 0) :: (0, .ldc 20) :: (2, .invokespecial 61443) :: s112_12
def s112_0 : List Ins := (2, .aload 0) :: (2, .iload 1) :: (2, .invokespecial 60610) :: s112_5
def tx_112 : Tx := [(0, 7, s112_0)]
-- 113: WellPumps.part(III)J
def s113_38 : List Ins := (2, .lreturn) :: []
def s113_28 : List Ins := (2, .aload 0) :: (1, .fload 712) :: (2, .iload 1) :: (2, .iload 2) :: (2, .iload 3) :: (2, .invokevirtual 21604) :: s113_38
def s113_17 : List Ins := (2, .aload 0) :: (1, .fload 708) :: (2, .aload 0) :: (1, .fload 706) :: (2, .invokevirtual 31410) :: s113_28
def s113_10 : List Ins := (2, .iload 3) :: (0, .ldc 0) :: (0, .ldc 12) :: (2, .invokespecial 61443) :: s113_17
def s113_5 : List Ins := (2, .aload 0) :: (2, .iload 2) :: (2, .invokespecial 60610) :: s113_10
def s113_0 : List Ins := (2, .aload 0) :: (2, .iload 1) :: (2, .invokespecial 60098) :: s113_5
def tx_113 : Tx := [(0, 15, s113_0)]
-- 114: WellPumps.most(II)I
def s114_23 : List Ins := (0, .ldc_w 1) :: (2, .istore 3) :: (0, .ldc2_w 0) :: (2, .lstore 4) :: (0, .ldc 0) :: (2, .istore 6) :: (2, .jsr 31) :: []
def s114_12 : List Ins := (2, .aload 0) :: (1, .fload 708) :: (2, .aload 0) :: (1, .fload 706) :: (2, .invokevirtual 31410) :: s114_23
def s114_5 : List Ins := (2, .iload 2) :: (0, .ldc 0) :: (0, .ldc 12) :: (2, .invokespecial 61443) :: s114_12
def s114_0 : List Ins := (2, .aload 0) :: (2, .iload 1) :: (2, .invokespecial 60610) :: s114_5
def s114_54 : List Ins := (2, .lstore 7) :: (2, .iload 3) :: (0, .ldc_w 1) :: (2, .if_icmp .eq 69) :: (2, .lload 7) :: (2, .lload 4) :: (0, .lcmp) :: (2, .ifCond .le 76) :: (2, .jsr 69) :: []
def s114_31 : List Ins := (2, .iload 6) :: (2, .aload 0) :: (1, .fload 708) :: (1, .getfield 642) :: (2, .if_icmp .ge 82) :: (2, .aload 0) :: (1, .fload 712) :: (2, .iload 6) :: (2, .iload 1) :: (2, .iload 2) :: (2, .invokevirtual 21604) :: s114_54
def s114_69 : List Ins := (2, .iload 6) :: (2, .istore 3) :: (2, .lload 7) :: (2, .lstore 4) :: (2, .jsr 76) :: []
def s114_76 : List Ins := (2, .iinc 6 1) :: (2, .goto 31) :: []
def s114_82 : List Ins := (2, .iload 3) :: (2, .ireturn) :: []
def tx_114 : Tx := [(0, 7, s114_0), (31, 95, s114_31), (69, 199, s114_69), (76, 95, s114_76), (82, 8, s114_82)]
-- 115: WellPumps.lasts(I)I
def s115_16 : List Ins := (2, .iload 1) :: (2, .istore 2) :: (0, .ldc 0) :: (2, .istore 3) :: (2, .jsr 20) :: []
def s115_5 : List Ins := (2, .aload 0) :: (1, .fload 708) :: (2, .aload 0) :: (1, .fload 706) :: (2, .invokevirtual 31410) :: s115_16
def s115_0 : List Ins := (2, .aload 0) :: (2, .iload 1) :: (2, .invokespecial 60610) :: s115_5
def s115_20 : List Ins := (2, .iload 3) :: (0, .ldc 100) :: (2, .if_icmp .gt 55) :: (2, .iload 2) :: (2, .ifCond .ne 32) :: (2, .iload 3) :: (2, .ireturn) :: []
def s115_41 : List Ins := (2, .aload 0) :: (1, .fload 708) :: (1, .getfield 653) :: (2, .istore 2) :: (2, .iinc 3 1) :: (2, .goto 20) :: []
def s115_32 : List Ins := (2, .aload 0) :: (1, .fload 708) :: (2, .iload 2) :: (0, .ldc 0) :: (2, .invokevirtual 34995) :: s115_41
def s115_55 : List Ins := (0, .ldc_w 1) :: (2, .ireturn) :: []
def tx_115 : Tx := [(0, 3, s115_0), (20, 13, s115_20), (32, 13, s115_32), (55, 0, s115_55)]
-- 116: WellPumps.run(IIIZI)I
def s116_12 : List Ins := (2, .iload 5) :: (2, .ifCond .lt 24) :: (2, .iload 5) :: (0, .ldc 7) :: (2, .if_icmp .le 35) :: (2, .jsr 24) :: []
def s116_5 : List Ins := (2, .iload 2) :: (0, .ldc 0) :: (0, .ldc 100) :: (2, .invokespecial 61443) :: s116_12
def s116_0 : List Ins := (2, .aload 0) :: (2, .iload 1) :: (2, .invokespecial 60610) :: s116_5
def s116_24 : List Ins := (2, .ldc2_w 3) :: []
def s116_57 : List Ins := (0, .ldc 0) :: (2, .istore 6) :: (2, .jsr 60) :: []
def s116_46 : List Ins := (2, .aload 0) :: (1, .fload 713) :: (2, .iload 1) :: (2, .iload 3) :: (2, .iload 4) :: (2, .invokevirtual 28324) :: s116_57
def s116_35 : List Ins := (2, .aload 0) :: (1, .fload 708) :: (2, .aload 0) :: (1, .fload 706) :: (2, .invokevirtual 31410) :: s116_46
def s116_75 : List Ins := (2, .iinc 6 1) :: (2, .goto 60) :: []
def s116_60 : List Ins := (2, .iload 6) :: (2, .iload 2) :: (2, .if_icmp .ge 81) :: (2, .aload 0) :: (1, .fload 713) :: (2, .iload 6) :: (2, .invokevirtual 28834) :: s116_75
def s116_90 : List Ins := (2, .ireturn) :: []
def s116_81 : List Ins := (2, .aload 0) :: (1, .fload 713) :: (2, .iload 5) :: (2, .invokevirtual 30882) :: s116_90
def tx_116 : Tx := [(0, 63, s116_0), (24, 0, s116_24), (35, 63, s116_35), (60, 101, s116_60), (81, 33, s116_81)]
-- 117: WellPumps.needFarm(I)V
def s117_11 : List Ins := (2, .return_) :: []
def s117_0 : List Ins := (2, .iload 1) :: (2, .aload 0) :: (1, .fload 706) :: (1, .getfield 517) :: (2, .invokespecial 60930) :: s117_11
def tx_117 : Tx := [(0, 3, s117_0)]
-- 118: WellPumps.needLevel(I)V
def s118_13 : List Ins := (2, .return_) :: []
def s118_0 : List Ins := (2, .iload 1) :: (2, .aload 0) :: (1, .fload 706) :: (1, .getfield 512) :: (0, .ldc 1) :: (0, .iadd) :: (2, .invokespecial 60930) :: s118_13
def tx_118 : Tx := [(0, 3, s118_0)]
-- 119: WellPumps.needIndex(II)V
def s119_0 : List Ins := (2, .iload 0) :: (2, .ifCond .lt 9) :: (2, .iload 0) :: (2, .iload 1) :: (2, .if_icmp .lt 20) :: (2, .jsr 9) :: []
def s119_9 : List Ins := (2, .ldc2_w 1) :: []
def s119_20 : List Ins := (2, .return_) :: []
def tx_119 : Tx := [(0, 3, s119_0), (9, 0, s119_9), (20, 0, s119_20)]
-- 120: WellPumps.needNumber(III)V
def s120_0 : List Ins := (2, .iload 0) :: (2, .iload 1) :: (2, .if_icmp .lt 10) :: (2, .iload 0) :: (2, .iload 2) :: (2, .if_icmp .le 21) :: (2, .jsr 10) :: []
def s120_10 : List Ins := (2, .ldc2_w 0) :: []
def s120_21 : List Ins := (2, .return_) :: []
def tx_120 : Tx := [(0, 7, s120_0), (10, 0, s120_10), (21, 0, s120_21)]
-- 121: WellPumps.needRoom(II)V
def s121_0 : List Ins := (2, .iload 0) :: (2, .iload 1) :: (2, .if_icmp .lt 16) :: (2, .ldc2_w 2) :: []
def s121_16 : List Ins := (2, .return_) :: []
def tx_121 : Tx := [(0, 3, s121_0), (16, 0, s121_16)]
-- 122: WellPumps.pumpByDraws(IZ)V
def s122_11 : List Ins := (2, .aload 0) :: (1, .fload 708) :: (2, .iload 1) :: (2, .iload 2) :: (2, .ifCond .eq 24) :: (0, .ldc 1) :: (2, .goto 25) :: []
def s122_0 : List Ins := (2, .aload 0) :: (1, .fload 708) :: (2, .aload 0) :: (1, .fload 706) :: (2, .invokevirtual 31410) :: s122_11
def s122_24 : List Ins := (0, .ldc 0) :: (2, .jsr 25) :: []
def s122_28 : List Ins := (2, .return_) :: []
def s122_25 : List Ins := (2, .invokevirtual 34995) :: s122_28
def tx_122 : Tx := [(0, 7, s122_0), (24, 0, s122_24), (25, 0, s122_25)]
-- 123: WellPumps.levelsOfRest()I
def s123_11 : List Ins := (0, .ldc 0) :: (2, .istore 1) :: (0, .ldc 0) :: (2, .istore 2) :: (2, .jsr 15) :: []
def s123_0 : List Ins := (2, .aload 0) :: (1, .fload 708) :: (2, .aload 0) :: (1, .fload 706) :: (2, .invokevirtual 31410) :: s123_11
def s123_35 : List Ins := (0, .ldc 0) :: (2, .istore 3) :: (0, .ldc 0) :: (2, .istore 4) :: (2, .jsr 40) :: []
def s123_15 : List Ins := (2, .iload 2) :: (2, .aload 0) :: (1, .fload 708) :: (1, .getfield 640) :: (2, .if_icmp .gt 84) :: (2, .aload 0) :: (1, .fload 708) :: (2, .iload 2) :: (0, .ldc 0) :: (2, .invokevirtual 34483) :: s123_35
def s123_40 : List Ins := (2, .iload 4) :: (2, .aload 0) :: (1, .fload 708) :: (1, .getfield 642) :: (2, .if_icmp .ge 71) :: (2, .iload 3) :: (2, .aload 0) :: (1, .fload 708) :: (1, .checkcast 651) :: (2, .iload 4) :: (1, .iaload) :: (0, .iadd) :: (2, .istore 3) :: (2, .iinc 4 1) :: (2, .goto 40) :: []
def s123_71 : List Ins := (2, .iload 3) :: (2, .ifCond .ne 78) :: (2, .iinc 1 1) :: (2, .jsr 78) :: []
def s123_78 : List Ins := (2, .iinc 2 1) :: (2, .goto 15) :: []
def s123_84 : List Ins := (2, .iload 1) :: (2, .ireturn) :: []
def tx_123 : Tx := [(0, 1, s123_0), (15, 7, s123_15), (40, 31, s123_40), (71, 15, s123_71), (78, 7, s123_78), (84, 2, s123_84)]
-- 124: WellPumps.ownAll()V
def s124_37 : List Ins := (2, .return_) :: []
def s124_30 : List Ins := (2, .aload 0) :: (1, .fload 710) :: (2, .invokevirtual 4641) :: s124_37
def s124_23 : List Ins := (2, .aload 0) :: (1, .fload 710) :: (2, .invokevirtual 4129) :: s124_30
def s124_11 : List Ins := (2, .aload 0) :: (1, .fload 708) :: (2, .aload 0) :: (1, .fload 706) :: (0, .ldc 0) :: (2, .invokevirtual 33459) :: s124_23
def s124_0 : List Ins := (2, .aload 0) :: (1, .fload 708) :: (2, .aload 0) :: (1, .fload 706) :: (2, .invokevirtual 31410) :: s124_11
def tx_124 : Tx := [(0, 1, s124_0)]
-- 125: WellPumps.half(JJZ)J
def s125_8 : List Ins := (2, .lstore 5) :: (2, .lload 5) :: (0, .ldc2_w 0) :: (0, .lcmp) :: (2, .ifCond .ne 28) :: (2, .iload 4) :: (2, .ifCond .eq 26) :: (0, .ldc2_w 1) :: (2, .goto 27) :: []
def s125_4 : List Ins := (2, .lload 2) :: (2, .invokevirtual 64514) :: s125_8
def s125_0 : List Ins := (2, .lload 0) :: (2, .invokevirtual 117249) :: s125_4
def s125_26 : List Ins := (0, .ldc2_w 0) :: (2, .jsr 27) :: []
def s125_27 : List Ins := (2, .lreturn) :: []
def s125_28 : List Ins := (2, .iload 4) :: (2, .ifCond .eq 37) :: (2, .lload 2) :: (2, .goto 38) :: []
def s125_37 : List Ins := (2, .lload 0) :: (2, .jsr 38) :: []
def s125_38 : List Ins := (2, .lload 5) :: (0, .ldiv) :: (2, .lreturn) :: []
def tx_125 : Tx := [(0, 21, s125_0), (26, 0, s125_26), (27, 0, s125_27), (28, 53, s125_28), (37, 33, s125_37), (38, 32, s125_38)]
-- 126: WellPumps.commonPart(JJ)J
def s126_0 : List Ins := (2, .lload 0) :: (2, .lstore 4) :: (2, .lload 2) :: (2, .lstore 6) :: (0, .ldc 0) :: (2, .istore 8) :: (2, .jsr 9) :: []
def s126_9 : List Ins := (2, .lload 6) :: (0, .ldc2_w 0) :: (0, .lcmp) :: (2, .ifCond .eq 45) :: (2, .iload 8) :: (0, .ldc 200) :: (2, .if_icmp .ge 45) :: (2, .lload 4) :: (2, .lload 6) :: (0, .lrem) :: (2, .lstore 9) :: (2, .lload 6) :: (2, .lstore 4) :: (2, .lload 9) :: (2, .lstore 6) :: (2, .iinc 8 1) :: (2, .goto 9) :: []
def s126_45 : List Ins := (2, .lload 4) :: (2, .lreturn) :: []
def tx_126 : Tx := [(0, 5, s126_0), (9, 336, s126_9), (45, 16, s126_45)]
-- 127: WellPumps.isMore(JJJJ)Z
def s127_0 : List Ins := (2, .lload 0) :: (2, .lstore 8) :: (2, .lload 2) :: (2, .lstore 10) :: (2, .lload 4) :: (2, .lstore 12) :: (2, .lload 6) :: (2, .lstore 14) :: (0, .ldc 0) :: (2, .istore 16) :: (2, .jsr 17) :: []
def s127_55 : List Ins := (2, .lstore 19) :: (2, .lload 8) :: (2, .lload 17) :: (2, .lload 10) :: (0, .lmul) :: (0, .lsub) :: (2, .lstore 21) :: (2, .lload 12) :: (2, .lload 19) :: (2, .lload 14) :: (0, .lmul) :: (0, .lsub) :: (2, .lstore 23) :: (2, .lload 17) :: (2, .lload 19) :: (0, .lcmp) :: (2, .ifCond .eq 99) :: (2, .lload 17) :: (2, .lload 19) :: (0, .lcmp) :: (2, .ifCond .le 97) :: (0, .ldc 1) :: (2, .goto 98) :: []
def s127_46 : List Ins := (2, .lstore 17) :: (2, .lload 12) :: (2, .lload 14) :: (2, .invokevirtual 115714) :: s127_55
def s127_17 : List Ins := (2, .lload 10) :: (0, .ldc2_w 0) :: (0, .lcmp) :: (2, .ifCond .le 149) :: (2, .lload 14) :: (0, .ldc2_w 0) :: (0, .lcmp) :: (2, .ifCond .le 149) :: (2, .iload 16) :: (0, .ldc 200) :: (2, .if_icmp .ge 149) :: (2, .lload 8) :: (2, .lload 10) :: (2, .invokevirtual 115714) :: s127_46
def s127_97 : List Ins := (0, .ldc 0) :: (2, .jsr 98) :: []
def s127_98 : List Ins := (2, .freturn) :: []
def s127_99 : List Ins := (2, .lload 21) :: (0, .ldc2_w 0) :: (0, .lcmp) :: (2, .ifCond .eq 113) :: (2, .lload 23) :: (0, .ldc2_w 0) :: (0, .lcmp) :: (2, .ifCond .ne 127) :: (2, .jsr 113) :: []
def s127_113 : List Ins := (2, .lload 21) :: (2, .lload 23) :: (0, .lcmp) :: (2, .ifCond .le 125) :: (0, .ldc 1) :: (2, .goto 126) :: []
def s127_125 : List Ins := (0, .ldc 0) :: (2, .jsr 126) :: []
def s127_126 : List Ins := (2, .freturn) :: []
def s127_127 : List Ins := (2, .lload 14) :: (2, .lstore 8) :: (2, .lload 10) :: (2, .lstore 12) :: (2, .lload 23) :: (2, .lstore 10) :: (2, .lload 21) :: (2, .lstore 14) :: (2, .iinc 16 1) :: (2, .goto 17) :: []
def s127_149 : List Ins := (0, .ldc 0) :: (2, .freturn) :: []
def tx_127 : Tx := [(0, 85, s127_0), (17, 87296, s127_17), (97, 0, s127_97), (98, 0, s127_98), (99, 10568704, s127_99), (113, 10485760, s127_113), (125, 0, s127_125), (126, 0, s127_126), (127, 10568704, s127_127), (149, 0, s127_149)]
-- 128: WellPumps.wholeLess(JJJJ)J
def s128_0 : List Ins := (2, .lload 2) :: (0, .ldc2_w 0) :: (0, .lcmp) :: (2, .ifCond .le 13) :: (2, .lload 6) :: (0, .ldc2_w 0) :: (0, .lcmp) :: (2, .ifCond .gt 15) :: (2, .jsr 13) :: []
def s128_13 : List Ins := (0, .ldc2_w 0) :: (2, .lreturn) :: []
def s128_48 : List Ins := (2, .ifCond .eq 58) :: (2, .lload 8) :: (0, .ldc2_w 1) :: (0, .lsub) :: (2, .goto 60) :: []
def s128_44 : List Ins := (2, .lload 2) :: (2, .invokevirtual 65028) :: s128_48
def s128_37 : List Ins := (2, .lload 6) :: (2, .lload 0) :: (2, .lload 2) :: (2, .invokevirtual 116226) :: s128_44
def s128_27 : List Ins := (0, .lsub) :: (2, .lstore 8) :: (2, .lload 4) :: (2, .lload 6) :: (2, .invokevirtual 116226) :: s128_37
def s128_20 : List Ins := (2, .lload 4) :: (2, .lload 6) :: (2, .invokevirtual 115714) :: s128_27
def s128_15 : List Ins := (2, .lload 0) :: (2, .lload 2) :: (2, .invokevirtual 115714) :: s128_20
def s128_58 : List Ins := (2, .lload 8) :: (2, .jsr 60) :: []
def s128_60 : List Ins := (2, .lreturn) :: []
def tx_128 : Tx := [(0, 85, s128_0), (13, 0, s128_13), (15, 85, s128_15), (58, 256, s128_58), (60, 0, s128_60)]
-- 129: WellPumpsModel.thrown()I
def s129_0 : List Ins := (2, .aload 0) :: (1, .getfield 768) :: (2, .ireturn) :: []
def tx_129 : Tx := [(0, 1, s129_0)]
-- 130: WellPumpsModel.throwsIf(ZI)Z
def s130_0 : List Ins := (2, .iload 1) :: (2, .ifCond .eq 9) :: (2, .aload 0) :: (2, .iload 2) :: (1, .putfield 768) :: (2, .jsr 9) :: []
def s130_9 : List Ins := (2, .iload 1) :: (2, .freturn) :: []
def tx_130 : Tx := [(0, 7, s130_0), (9, 2, s130_9)]
-- 131: WellPumpsModel.in(III)Z
def s131_0 : List Ins := (2, .iload 0) :: (2, .iload 1) :: (2, .if_icmp .lt 14) :: (2, .iload 0) :: (2, .iload 2) :: (2, .if_icmp .gt 14) :: (0, .ldc 1) :: (2, .goto 15) :: []
def s131_14 : List Ins := (0, .ldc 0) :: (2, .jsr 15) :: []
def s131_15 : List Ins := (2, .freturn) :: []
def tx_131 : Tx := [(0, 7, s131_0), (14, 0, s131_14), (15, 0, s131_15)]
-- 132: WellPumpsModel.image()V
def s132_0 : List Ins := (2, .aload 0) :: (0, .ldc 0) :: (1, .putfield 768) :: (0, .ldc 0) :: (2, .istore 1) :: (2, .jsr 7) :: []
def s132_7 : List Ins := (2, .iload 1) :: (0, .ldc 5461) :: (2, .if_icmp .ge 32) :: (2, .aload 0) :: (1, .checkcast 770) :: (2, .iload 1) :: (2, .aload 0) :: (1, .checkcast 769) :: (2, .iload 1) :: (1, .iaload) :: (1, .iastore) :: (2, .iinc 1 1) :: (2, .goto 7) :: []
def s132_32 : List Ins := (2, .aload 0) :: (0, .ldc 1) :: (1, .putstatic 771) :: (2, .return_) :: []
def tx_132 : Tx := [(0, 1, s132_0), (7, 3, s132_7), (32, 1, s132_32)]
-- 133: WellPumpsModel.back()Z
def s133_0 : List Ins := (2, .aload 0) :: (0, .ldc 0) :: (1, .putfield 768) :: (2, .aload 0) :: (1, .getfield 771) :: (2, .ifCond .ne 14) :: (0, .ldc 0) :: (2, .freturn) :: []
def s133_14 : List Ins := (0, .ldc 0) :: (2, .istore 1) :: (2, .jsr 16) :: []
def s133_16 : List Ins := (2, .iload 1) :: (0, .ldc 5461) :: (2, .if_icmp .ge 41) :: (2, .aload 0) :: (1, .checkcast 769) :: (2, .iload 1) :: (2, .aload 0) :: (1, .checkcast 770) :: (2, .iload 1) :: (1, .iaload) :: (1, .iastore) :: (2, .iinc 1 1) :: (2, .goto 16) :: []
def s133_41 : List Ins := (0, .ldc 1) :: (2, .freturn) :: []
def tx_133 : Tx := [(0, 1, s133_0), (14, 1, s133_14), (16, 3, s133_16), (41, 0, s133_41)]
-- 134: WellPumpsModel.topIs()I
def s134_0 : List Ins := (2, .aload 0) :: (1, .checkcast 769) :: (0, .ldc 0) :: (1, .iaload) :: (2, .ireturn) :: []
def tx_134 : Tx := [(0, 1, s134_0)]
-- 135: WellPumpsModel.farms()I
def s135_0 : List Ins := (2, .aload 0) :: (1, .checkcast 769) :: (0, .ldc 8) :: (1, .iaload) :: (2, .ireturn) :: []
def tx_135 : Tx := [(0, 1, s135_0)]
-- 136: WellPumpsModel.parts()I
def s136_0 : List Ins := (2, .aload 0) :: (1, .checkcast 769) :: (0, .ldc 2) :: (1, .iaload) :: (2, .aload 0) :: (1, .checkcast 769) :: (0, .ldc 3) :: (1, .iaload) :: (0, .iadd) :: (2, .aload 0) :: (1, .checkcast 769) :: (0, .ldc 4) :: (1, .iaload) :: (0, .iadd) :: (2, .aload 0) :: (1, .checkcast 769) :: (0, .ldc 5) :: (1, .iaload) :: (0, .iadd) :: (2, .ireturn) :: []
def tx_136 : Tx := [(0, 1, s136_0)]
-- 137: WellPumpsModel.noLevel(I)Z
def s137_9 : List Ins := (2, .ifCond .ne 16) :: (0, .ldc 1) :: (2, .goto 17) :: []
def s137_6 : List Ins := (2, .invokevirtual 67075) :: s137_9
def s137_0 : List Ins := (2, .iload 1) :: (0, .ldc 0) :: (2, .aload 0) :: (2, .invokevirtual 68817) :: s137_6
def s137_16 : List Ins := (0, .ldc 0) :: (2, .jsr 17) :: []
def s137_17 : List Ins := (2, .freturn) :: []
def tx_137 : Tx := [(0, 3, s137_0), (16, 0, s137_16), (17, 0, s137_17)]
-- 138: WellPumpsModel.noFarm(I)Z
def s138_11 : List Ins := (2, .ifCond .ne 18) :: (0, .ldc 1) :: (2, .goto 19) :: []
def s138_6 : List Ins := (0, .ldc 1) :: (0, .isub) :: (2, .invokevirtual 67075) :: s138_11
def s138_0 : List Ins := (2, .iload 1) :: (0, .ldc 0) :: (2, .aload 0) :: (2, .invokevirtual 69329) :: s138_6
def s138_18 : List Ins := (0, .ldc 0) :: (2, .jsr 19) :: []
def s138_19 : List Ins := (2, .freturn) :: []
def tx_138 : Tx := [(0, 3, s138_0), (18, 0, s138_18), (19, 0, s138_19)]
-- 139: WellPumpsModel.noDraw(I)Z
def s139_14 : List Ins := (2, .ifCond .ne 21) :: (0, .ldc 1) :: (2, .goto 22) :: []
def s139_0 : List Ins := (2, .iload 1) :: (0, .ldc 0) :: (2, .aload 0) :: (1, .checkcast 769) :: (0, .ldc 11) :: (1, .iaload) :: (0, .ldc 1) :: (0, .isub) :: (2, .invokevirtual 67075) :: s139_14
def s139_21 : List Ins := (0, .ldc 0) :: (2, .jsr 22) :: []
def s139_22 : List Ins := (2, .freturn) :: []
def tx_139 : Tx := [(0, 3, s139_0), (21, 0, s139_21), (22, 0, s139_22)]
-- 140: WellPumpsModel.well(II)V
def s140_23 : List Ins := (2, .ifCond .ne 30) :: (2, .jsr 26) :: []
def s140_13 : List Ins := (2, .ifCond .eq 26) :: (2, .iload 2) :: (0, .ldc_w 1) :: (0, .ldc 7) :: (2, .invokevirtual 67075) :: s140_23
def s140_0 : List Ins := (2, .aload 0) :: (0, .ldc 0) :: (1, .putfield 768) :: (2, .aload 0) :: (2, .iload 1) :: (0, .ldc 1) :: (0, .ldc 7) :: (2, .invokevirtual 67075) :: s140_13
def s140_26 : List Ins := (0, .ldc 1) :: (2, .goto 31) :: []
def s140_30 : List Ins := (0, .ldc 0) :: (2, .jsr 31) :: []
def s140_35 : List Ins := (2, .ifCond .eq 39) :: (2, .return_) :: []
def s140_31 : List Ins := (0, .ldc 1) :: (2, .invokevirtual 66771) :: s140_35
def s140_39 : List Ins := (2, .aload 0) :: (1, .checkcast 769) :: (0, .ldc 0) :: (2, .iload 1) :: (1, .iastore) :: (2, .aload 0) :: (1, .checkcast 769) :: (0, .ldc 1) :: (2, .iload 2) :: (1, .iastore) :: (2, .return_) :: []
def tx_140 : Tx := [(0, 7, s140_0), (26, 7, s140_26), (30, 7, s140_30), (31, 7, s140_31), (39, 7, s140_39)]
-- 141: WellPumpsModel.rain(IIII)V
def s141_56 : List Ins := (2, .ifCond .ne 63) :: (2, .jsr 59) :: []
def s141_40 : List Ins := (2, .ifCond .eq 59) :: (2, .iload 1) :: (2, .iload 2) :: (0, .iadd) :: (2, .iload 3) :: (0, .iadd) :: (2, .iload 4) :: (0, .iadd) :: (0, .ldc 1) :: (0, .ldc 4) :: (2, .invokevirtual 67075) :: s141_56
def s141_30 : List Ins := (2, .ifCond .eq 59) :: (2, .iload 4) :: (0, .ldc 0) :: (0, .ldc 4) :: (2, .invokevirtual 67075) :: s141_40
def s141_21 : List Ins := (2, .ifCond .eq 59) :: (2, .iload 3) :: (0, .ldc 0) :: (0, .ldc 4) :: (2, .invokevirtual 67075) :: s141_30
def s141_12 : List Ins := (2, .ifCond .eq 59) :: (2, .iload 2) :: (0, .ldc 0) :: (0, .ldc 4) :: (2, .invokevirtual 67075) :: s141_21
def s141_0 : List Ins := (2, .aload 0) :: (0, .ldc 0) :: (1, .putfield 768) :: (2, .aload 0) :: (2, .iload 1) :: (0, .ldc 0) :: (0, .ldc 4) :: (2, .invokevirtual 67075) :: s141_12
def s141_59 : List Ins := (0, .ldc 1) :: (2, .goto 64) :: []
def s141_63 : List Ins := (0, .ldc 0) :: (2, .jsr 64) :: []
def s141_68 : List Ins := (2, .ifCond .eq 72) :: (2, .return_) :: []
def s141_64 : List Ins := (0, .ldc 1) :: (2, .invokevirtual 66771) :: s141_68
def s141_72 : List Ins := (2, .aload 0) :: (1, .checkcast 769) :: (0, .ldc 2) :: (2, .iload 1) :: (1, .iastore) :: (2, .aload 0) :: (1, .checkcast 769) :: (0, .ldc 3) :: (2, .iload 2) :: (1, .iastore) :: (2, .aload 0) :: (1, .checkcast 769) :: (0, .ldc 4) :: (2, .iload 3) :: (1, .iastore) :: (2, .aload 0) :: (1, .checkcast 769) :: (0, .ldc 5) :: (2, .iload 4) :: (1, .iastore) :: (2, .return_) :: []
def tx_141 : Tx := [(0, 31, s141_0), (59, 31, s141_59), (63, 31, s141_63), (64, 31, s141_64), (72, 31, s141_72)]
-- 142: WellPumpsModel.years(II)V
def s142_23 : List Ins := (2, .ifCond .ne 30) :: (2, .jsr 26) :: []
def s142_12 : List Ins := (2, .ifCond .eq 26) :: (2, .iload 1) :: (0, .ldc 1) :: (2, .iload 2) :: (0, .ldc 1) :: (0, .isub) :: (2, .invokevirtual 67075) :: s142_23
def s142_0 : List Ins := (2, .aload 0) :: (0, .ldc 0) :: (1, .putfield 768) :: (2, .aload 0) :: (2, .iload 2) :: (0, .ldc 2) :: (0, .ldc 5) :: (2, .invokevirtual 67075) :: s142_12
def s142_26 : List Ins := (0, .ldc 1) :: (2, .goto 31) :: []
def s142_30 : List Ins := (0, .ldc 0) :: (2, .jsr 31) :: []
def s142_35 : List Ins := (2, .ifCond .eq 39) :: (2, .return_) :: []
def s142_31 : List Ins := (0, .ldc 1) :: (2, .invokevirtual 66771) :: s142_35
def s142_39 : List Ins := (2, .aload 0) :: (1, .checkcast 769) :: (0, .ldc 6) :: (2, .iload 1) :: (1, .iastore) :: (2, .aload 0) :: (1, .checkcast 769) :: (0, .ldc 7) :: (2, .iload 2) :: (1, .iastore) :: (2, .return_) :: []
def tx_142 : Tx := [(0, 7, s142_0), (26, 7, s142_26), (30, 7, s142_30), (31, 7, s142_31), (39, 7, s142_39)]
-- 143: WellPumpsModel.farm(IIII)I
def s143_44 : List Ins := (2, .ifCond .ne 51) :: (2, .jsr 47) :: []
def s143_33 : List Ins := (2, .ifCond .eq 47) :: (2, .iload 4) :: (0, .ldc 0) :: (0, .ldc 9) :: (2, .invokevirtual 67075) :: s143_44
def s143_23 : List Ins := (2, .ifCond .eq 47) :: (2, .iload 3) :: (0, .ldc 0) :: (0, .ldc 99) :: (2, .invokevirtual 67075) :: s143_33
def s143_13 : List Ins := (2, .ifCond .eq 47) :: (2, .iload 2) :: (0, .ldc 0) :: (0, .ldc 99) :: (2, .invokevirtual 67075) :: s143_23
def s143_0 : List Ins := (2, .aload 0) :: (0, .ldc 0) :: (1, .putfield 768) :: (2, .aload 0) :: (2, .iload 1) :: (0, .ldc 0) :: (0, .ldc 99) :: (2, .invokevirtual 67075) :: s143_13
def s143_47 : List Ins := (0, .ldc 1) :: (2, .goto 52) :: []
def s143_51 : List Ins := (0, .ldc 0) :: (2, .jsr 52) :: []
def s143_64 : List Ins := (0, .ldc 3) :: (2, .if_icmp .ne 72) :: (0, .ldc 1) :: (2, .goto 73) :: []
def s143_56 : List Ins := (2, .ifCond .ne 80) :: (2, .aload 0) :: (2, .aload 0) :: (2, .invokevirtual 69329) :: s143_64
def s143_52 : List Ins := (0, .ldc 1) :: (2, .invokevirtual 66771) :: s143_56
def s143_72 : List Ins := (0, .ldc 0) :: (2, .jsr 73) :: []
def s143_77 : List Ins := (2, .ifCond .eq 82) :: (2, .jsr 80) :: []
def s143_73 : List Ins := (0, .ldc 2) :: (2, .invokevirtual 66771) :: s143_77
def s143_80 : List Ins := (0, .ldc 0) :: (2, .ireturn) :: []
def s143_157 : List Ins := (0, .ldc 1) :: (0, .isub) :: (2, .ireturn) :: []
def s143_89 : List Ins := (0, .imul) :: (0, .iadd) :: (2, .istore 5) :: (2, .aload 0) :: (1, .checkcast 769) :: (2, .iload 5) :: (2, .iload 1) :: (1, .iastore) :: (2, .aload 0) :: (1, .checkcast 769) :: (2, .iload 5) :: (0, .ldc 1) :: (0, .iadd) :: (2, .iload 2) :: (1, .iastore) :: (2, .aload 0) :: (1, .checkcast 769) :: (2, .iload 5) :: (0, .ldc 2) :: (0, .iadd) :: (2, .iload 3) :: (1, .iastore) :: (2, .aload 0) :: (1, .checkcast 769) :: (2, .iload 5) :: (0, .ldc 3) :: (0, .iadd) :: (2, .iload 4) :: (1, .iastore) :: (2, .aload 0) :: (1, .checkcast 769) :: (2, .iload 5) :: (0, .ldc 4) :: (0, .iadd) :: (0, .ldc_w 1) :: (1, .iastore) :: (2, .aload 0) :: (1, .checkcast 769) :: (0, .ldc 8) :: (0, .dup2) :: (1, .iaload) :: (0, .ldc 1) :: (0, .iadd) :: (1, .iastore) :: (2, .aload 0) :: (2, .invokevirtual 69329) :: s143_157
def s143_82 : List Ins := (0, .ldc 17) :: (0, .ldc 5) :: (2, .aload 0) :: (2, .invokevirtual 69329) :: s143_89
def tx_143 : Tx := [(0, 31, s143_0), (47, 31, s143_47), (51, 31, s143_51), (52, 31, s143_52), (72, 31, s143_72), (73, 31, s143_73), (80, 0, s143_80), (82, 31, s143_82)]
-- 144: WellPumpsModel.rule(IIIII)I
def s144_53 : List Ins := (2, .ifCond .ne 60) :: (2, .jsr 56) :: []
def s144_43 : List Ins := (2, .ifCond .eq 56) :: (2, .iload 5) :: (0, .ldc 0) :: (0, .ldc 4) :: (2, .invokevirtual 67075) :: s144_53
def s144_32 : List Ins := (2, .ifCond .eq 56) :: (2, .iload 4) :: (0, .ldc 0) :: (0, .ldc 99) :: (2, .invokevirtual 67075) :: s144_43
def s144_23 : List Ins := (2, .ifCond .eq 56) :: (2, .iload 3) :: (0, .ldc 0) :: (0, .ldc 3) :: (2, .invokevirtual 67075) :: s144_32
def s144_13 : List Ins := (2, .ifCond .eq 56) :: (2, .iload 2) :: (0, .ldc 0) :: (0, .ldc 7) :: (2, .invokevirtual 67075) :: s144_23
def s144_0 : List Ins := (2, .aload 0) :: (0, .ldc 0) :: (1, .putfield 768) :: (2, .aload 0) :: (2, .iload 1) :: (0, .ldc 0) :: (0, .ldc 9) :: (2, .invokevirtual 67075) :: s144_13
def s144_56 : List Ins := (0, .ldc 1) :: (2, .goto 61) :: []
def s144_60 : List Ins := (0, .ldc 0) :: (2, .jsr 61) :: []
def s144_65 : List Ins := (2, .ifCond .ne 92) :: (2, .aload 0) :: (2, .aload 0) :: (1, .checkcast 769) :: (0, .ldc 9) :: (1, .iaload) :: (0, .ldc 5) :: (2, .if_icmp .ne 84) :: (0, .ldc 1) :: (2, .goto 85) :: []
def s144_61 : List Ins := (0, .ldc 1) :: (2, .invokevirtual 66771) :: s144_65
def s144_84 : List Ins := (0, .ldc 0) :: (2, .jsr 85) :: []
def s144_89 : List Ins := (2, .ifCond .eq 94) :: (2, .jsr 92) :: []
def s144_85 : List Ins := (0, .ldc 2) :: (2, .invokevirtual 66771) :: s144_89
def s144_92 : List Ins := (0, .ldc 0) :: (2, .ireturn) :: []
def s144_94 : List Ins := (0, .ldc 32) :: (0, .ldc 5) :: (2, .aload 0) :: (1, .checkcast 769) :: (0, .ldc 9) :: (1, .iaload) :: (0, .imul) :: (0, .iadd) :: (2, .istore 6) :: (2, .aload 0) :: (1, .checkcast 769) :: (2, .iload 6) :: (0, .ldc 0) :: (0, .iadd) :: (2, .iload 1) :: (1, .iastore) :: (2, .aload 0) :: (1, .checkcast 769) :: (2, .iload 6) :: (0, .ldc 1) :: (0, .iadd) :: (2, .iload 2) :: (1, .iastore) :: (2, .aload 0) :: (1, .checkcast 769) :: (2, .iload 6) :: (0, .ldc 2) :: (0, .iadd) :: (2, .iload 3) :: (1, .iastore) :: (2, .aload 0) :: (1, .checkcast 769) :: (2, .iload 6) :: (0, .ldc 3) :: (0, .iadd) :: (2, .iload 4) :: (1, .iastore) :: (2, .aload 0) :: (1, .checkcast 769) :: (2, .iload 6) :: (0, .ldc 4) :: (0, .iadd) :: (2, .iload 5) :: (1, .iastore) :: (2, .aload 0) :: (1, .checkcast 769) :: (0, .ldc 9) :: (0, .dup2) :: (1, .iaload) :: (0, .ldc 1) :: (0, .iadd) :: (1, .iastore) :: (2, .aload 0) :: (1, .checkcast 769) :: (0, .ldc 9) :: (1, .iaload) :: (0, .ldc 1) :: (0, .isub) :: (2, .ireturn) :: []
def tx_144 : Tx := [(0, 63, s144_0), (56, 63, s144_56), (60, 63, s144_60), (61, 63, s144_61), (84, 63, s144_84), (85, 63, s144_85), (92, 0, s144_92), (94, 63, s144_94)]
-- 145: WellPumpsModel.force(I)Z
def s145_20 : List Ins := (2, .ifCond .ne 27) :: (0, .ldc 1) :: (2, .goto 28) :: []
def s145_0 : List Ins := (2, .aload 0) :: (0, .ldc 0) :: (1, .putfield 768) :: (2, .aload 0) :: (2, .iload 1) :: (0, .ldc 0) :: (2, .aload 0) :: (1, .checkcast 769) :: (0, .ldc 9) :: (1, .iaload) :: (0, .ldc 1) :: (0, .isub) :: (2, .invokevirtual 67075) :: s145_20
def s145_27 : List Ins := (0, .ldc 0) :: (2, .jsr 28) :: []
def s145_32 : List Ins := (2, .ifCond .ne 46) :: (2, .aload 0) :: (1, .checkcast 769) :: (0, .ldc 10) :: (1, .iaload) :: (2, .iload 1) :: (2, .if_icmp .ne 48) :: (2, .jsr 46) :: []
def s145_28 : List Ins := (0, .ldc 1) :: (2, .invokevirtual 66771) :: s145_32
def s145_46 : List Ins := (0, .ldc 0) :: (2, .freturn) :: []
def s145_48 : List Ins := (2, .aload 0) :: (1, .checkcast 769) :: (0, .ldc 10) :: (2, .iload 1) :: (1, .iastore) :: (0, .ldc 1) :: (2, .freturn) :: []
def tx_145 : Tx := [(0, 3, s145_0), (27, 3, s145_27), (28, 3, s145_28), (46, 0, s145_46), (48, 3, s145_48)]
-- 146: WellPumpsModel.feed(IIIII)I
def s146_0 : List Ins := (2, .aload 0) :: (0, .ldc 0) :: (1, .putfield 768) :: (2, .aload 0) :: (1, .getfield 773) :: (0, .ldc 20) :: (0, .iadd) :: (0, .ldc 400) :: (2, .if_icmp .le 20) :: (0, .ldc_w 1) :: (2, .ireturn) :: []
def s146_20 : List Ins := (2, .aload 0) :: (1, .checkcast 779) :: (0, .ldc 0) :: (2, .iload 1) :: (1, .iastore) :: (2, .aload 0) :: (1, .checkcast 779) :: (0, .ldc 1) :: (2, .iload 2) :: (1, .iastore) :: (2, .aload 0) :: (1, .checkcast 779) :: (0, .ldc 2) :: (2, .iload 3) :: (1, .iastore) :: (2, .aload 0) :: (1, .checkcast 779) :: (0, .ldc 3) :: (2, .iload 4) :: (1, .iastore) :: (2, .aload 0) :: (1, .checkcast 779) :: (0, .ldc 4) :: (2, .iload 5) :: (1, .iastore) :: (0, .ldc 0) :: (2, .istore 6) :: (2, .jsr 60) :: []
def s146_60 : List Ins := (2, .iload 6) :: (0, .ldc 20) :: (2, .if_icmp .ge 106) :: (2, .aload 0) :: (1, .checkcast 772) :: (2, .aload 0) :: (1, .getfield 773) :: (2, .iload 6) :: (0, .iadd) :: (2, .aload 0) :: (1, .checkcast 779) :: (2, .iload 6) :: (0, .ldc 4) :: (0, .idiv) :: (1, .iaload) :: (0, .ldc 24) :: (0, .ldc 8) :: (2, .iload 6) :: (0, .ldc 4) :: (0, .irem) :: (0, .imul) :: (0, .isub) :: (0, .ishr) :: (0, .i2b) :: (1, .bastore) :: (2, .iinc 6 1) :: (2, .goto 60) :: []
def s146_106 : List Ins := (2, .aload 0) :: (0, .dup) :: (1, .getfield 773) :: (0, .ldc 20) :: (0, .iadd) :: (1, .putfield 773) :: (2, .aload 0) :: (1, .getfield 773) :: (2, .ireturn) :: []
def tx_146 : Tx := [(0, 63, s146_0), (20, 63, s146_20), (60, 65, s146_60), (106, 1, s146_106)]
-- 147: WellPumpsModel.end(I)Z
def s147_0 : List Ins := (2, .aload 0) :: (0, .ldc 0) :: (1, .putfield 768) :: (2, .iload 1) :: (2, .ifCond .lt 17) :: (2, .iload 1) :: (2, .aload 0) :: (1, .getfield 773) :: (2, .if_icmp .le 19) :: (2, .jsr 17) :: []
def s147_17 : List Ins := (0, .ldc 0) :: (2, .freturn) :: []
def s147_19 : List Ins := (2, .aload 0) :: (2, .iload 1) :: (1, .putfield 773) :: (0, .ldc 1) :: (2, .freturn) :: []
def tx_147 : Tx := [(0, 3, s147_0), (17, 0, s147_17), (19, 3, s147_19)]
-- 148: WellPumpsModel.uses()V
def s148_0 : List Ins := (2, .aload 0) :: (0, .ldc 0) :: (1, .putfield 768) :: (2, .aload 0) :: (2, .aload 0) :: (1, .getfield 773) :: (1, .putfield 775) :: (2, .aload 0) :: (0, .ldc 0) :: (1, .putfield 773) :: (2, .aload 0) :: (0, .ldc 0) :: (1, .putfield 774) :: (2, .aload 0) :: (0, .ldc 0) :: (1, .putfield 780) :: (2, .return_) :: []
def tx_148 : Tx := [(0, 1, s148_0)]
-- 149: WellPumpsModel.isAt(II)Z
def s149_0 : List Ins := (2, .aload 0) :: (1, .getfield 774) :: (2, .aload 0) :: (1, .getfield 775) :: (2, .if_icmp .ge 41) :: (2, .aload 0) :: (1, .checkcast 772) :: (2, .aload 0) :: (1, .getfield 774) :: (1, .baload) :: (2, .iload 1) :: (2, .if_icmp .lt 41) :: (2, .aload 0) :: (1, .checkcast 772) :: (2, .aload 0) :: (1, .getfield 774) :: (1, .baload) :: (2, .iload 2) :: (2, .if_icmp .gt 41) :: (0, .ldc 1) :: (2, .goto 42) :: []
def s149_41 : List Ins := (0, .ldc 0) :: (2, .jsr 42) :: []
def s149_42 : List Ins := (2, .freturn) :: []
def tx_149 : Tx := [(0, 7, s149_0), (41, 0, s149_41), (42, 0, s149_42)]
-- 150: WellPumpsModel.blanks()V
def s150_8 : List Ins := (2, .ifCond .eq 24) :: (2, .aload 0) :: (0, .dup) :: (1, .getfield 774) :: (0, .ldc 1) :: (0, .iadd) :: (1, .putfield 774) :: (2, .goto 0) :: []
def s150_0 : List Ins := (2, .aload 0) :: (0, .ldc 32) :: (0, .ldc 32) :: (2, .invokevirtual 76499) :: s150_8
def s150_24 : List Ins := (2, .aload 0) :: (2, .aload 0) :: (1, .getfield 774) :: (1, .putfield 776) :: (2, .return_) :: []
def tx_150 : Tx := [(0, 1, s150_0), (24, 1, s150_24)]
-- 151: WellPumpsModel.letters()V
def s151_12 : List Ins := (2, .ifCond .eq 28) :: (2, .aload 0) :: (0, .dup) :: (1, .getfield 774) :: (0, .ldc 1) :: (0, .iadd) :: (1, .putfield 774) :: (2, .goto 4) :: []
def s151_4 : List Ins := (2, .aload 0) :: (0, .ldc 97) :: (0, .ldc 122) :: (2, .invokevirtual 76499) :: s151_12
def s151_0 : List Ins := (2, .aload 0) :: (2, .invokevirtual 77009) :: s151_4
def s151_28 : List Ins := (2, .return_) :: []
def tx_151 : Tx := [(0, 1, s151_0), (4, 1, s151_4), (28, 0, s151_28)]
-- 152: WellPumpsModel.isWord(Ljava/lang/String;)Z
def s152_13 : List Ins := (2, .if_icmp .ne 20) :: (0, .ldc 1) :: (2, .goto 21) :: []
def s152_0 : List Ins := (2, .aload 0) :: (1, .getfield 774) :: (2, .aload 0) :: (1, .getfield 776) :: (0, .isub) :: (2, .aload 1) :: (2, .invokevirtual 512753) :: s152_13
def s152_20 : List Ins := (0, .ldc 0) :: (2, .jsr 21) :: []
def s152_21 : List Ins := (2, .istore 2) :: (0, .ldc 0) :: (2, .istore 3) :: (2, .jsr 24) :: []
def s152_52 : List Ins := (2, .if_icmp .ne 59) :: (0, .ldc 1) :: (2, .goto 60) :: []
def s152_33 : List Ins := (2, .if_icmp .ge 67) :: (2, .aload 0) :: (1, .checkcast 772) :: (2, .aload 0) :: (1, .getfield 776) :: (2, .iload 3) :: (0, .iadd) :: (1, .baload) :: (2, .aload 1) :: (2, .iload 3) :: (2, .invokevirtual 513778) :: s152_52
def s152_24 : List Ins := (2, .iload 2) :: (2, .ifCond .eq 67) :: (2, .iload 3) :: (2, .aload 1) :: (2, .invokevirtual 512753) :: s152_33
def s152_59 : List Ins := (0, .ldc 0) :: (2, .jsr 60) :: []
def s152_60 : List Ins := (2, .istore 2) :: (2, .iinc 3 1) :: (2, .goto 24) :: []
def s152_67 : List Ins := (2, .iload 2) :: (2, .freturn) :: []
def tx_152 : Tx := [(0, 3, s152_0), (20, 3, s152_20), (21, 3, s152_21), (24, 15, s152_24), (59, 11, s152_59), (60, 11, s152_60), (67, 4, s152_67)]
-- 153: WellPumpsModel.passes(Ljava/lang/String;)Z
def s153_9 : List Ins := (2, .ifCond .eq 14) :: (0, .ldc 1) :: (2, .freturn) :: []
def s153_4 : List Ins := (2, .aload 0) :: (2, .aload 1) :: (2, .invokevirtual 78034) :: s153_9
def s153_0 : List Ins := (2, .aload 0) :: (2, .invokevirtual 77521) :: s153_4
def s153_14 : List Ins := (2, .aload 0) :: (2, .aload 0) :: (1, .getfield 776) :: (1, .putfield 774) :: (0, .ldc 0) :: (2, .freturn) :: []
def tx_153 : Tx := [(0, 3, s153_0), (14, 1, s153_14)]
-- 154: WellPumpsModel.sign(I)Z
def s154_10 : List Ins := (2, .ifCond .ne 15) :: (0, .ldc 0) :: (2, .freturn) :: []
def s154_4 : List Ins := (2, .aload 0) :: (2, .iload 1) :: (2, .iload 1) :: (2, .invokevirtual 76499) :: s154_10
def s154_0 : List Ins := (2, .aload 0) :: (2, .invokevirtual 77009) :: s154_4
def s154_15 : List Ins := (2, .aload 0) :: (0, .dup) :: (1, .getfield 774) :: (0, .ldc 1) :: (0, .iadd) :: (1, .putfield 774) :: (0, .ldc 1) :: (2, .freturn) :: []
def tx_154 : Tx := [(0, 3, s154_0), (15, 1, s154_15)]
-- 155: WellPumpsModel.number(I)I
def s155_4 : List Ins := (0, .ldc 0) :: (2, .istore 2) :: (2, .jsr 6) :: []
def s155_0 : List Ins := (2, .aload 0) :: (2, .invokevirtual 77009) :: s155_4
def s155_14 : List Ins := (2, .ifCond .eq 65) :: (2, .aload 0) :: (1, .getfield 774) :: (2, .aload 0) :: (1, .getfield 776) :: (0, .isub) :: (0, .ldc 2) :: (2, .if_icmp .ge 50) :: (0, .ldc 10) :: (2, .iload 2) :: (0, .imul) :: (2, .aload 0) :: (1, .checkcast 772) :: (2, .aload 0) :: (1, .getfield 774) :: (1, .baload) :: (0, .iadd) :: (0, .ldc 48) :: (0, .isub) :: (2, .goto 51) :: []
def s155_6 : List Ins := (2, .aload 0) :: (0, .ldc 48) :: (0, .ldc 57) :: (2, .invokevirtual 76499) :: s155_14
def s155_50 : List Ins := (2, .iload 2) :: (2, .jsr 51) :: []
def s155_51 : List Ins := (2, .istore 2) :: (2, .aload 0) :: (0, .dup) :: (1, .getfield 774) :: (0, .ldc 1) :: (0, .iadd) :: (1, .putfield 774) :: (2, .goto 6) :: []
def s155_65 : List Ins := (2, .aload 0) :: (1, .getfield 774) :: (2, .aload 0) :: (1, .getfield 776) :: (2, .if_icmp .eq 94) :: (2, .aload 0) :: (1, .getfield 774) :: (2, .aload 0) :: (1, .getfield 776) :: (0, .isub) :: (0, .ldc 2) :: (2, .if_icmp .gt 94) :: (2, .iload 2) :: (2, .iload 1) :: (2, .if_icmp .le 98) :: (2, .jsr 94) :: []
def s155_94 : List Ins := (0, .ldc_w 1) :: (2, .goto 99) :: []
def s155_98 : List Ins := (2, .iload 2) :: (2, .jsr 99) :: []
def s155_99 : List Ins := (2, .ireturn) :: []
def tx_155 : Tx := [(0, 3, s155_0), (6, 7, s155_6), (50, 7, s155_50), (51, 3, s155_51), (65, 7, s155_65), (94, 0, s155_94), (98, 4, s155_98), (99, 0, s155_99)]
-- 156: WellPumpsModel.fault()I
def s156_0 : List Ins := (2, .aload 0) :: (0, .ldc 0) :: (1, .putfield 768) :: (2, .aload 0) :: (1, .getfield 778) :: (2, .ireturn) :: []
def tx_156 : Tx := [(0, 1, s156_0)]
-- 157: WellPumpsModel.drawAt(I)I
def s157_0 : List Ins := (0, .ldc 475) :: (0, .ldc 831) :: (2, .iload 0) :: (0, .imul) :: (0, .iadd) :: (2, .ireturn) :: []
def tx_157 : Tx := [(0, 1, s157_0)]
-- 158: WellPumpsModel.lineAt(II)I
def s158_4 : List Ins := (0, .ldc 1) :: (0, .iadd) :: (0, .ldc 3) :: (2, .iload 1) :: (0, .imul) :: (0, .iadd) :: (2, .ireturn) :: []
def s158_0 : List Ins := (2, .iload 0) :: (2, .invokevirtual 80385) :: s158_4
def tx_158 : Tx := [(0, 3, s158_0)]
-- 159: WellPumpsModel.emits(II)V
def s159_5 : List Ins := (0, .ldc 31) :: (0, .iadd) :: (0, .ldc 2) :: (2, .aload 0) :: (1, .getfield 780) :: (0, .imul) :: (0, .iadd) :: (2, .istore 3) :: (2, .aload 0) :: (1, .checkcast 769) :: (2, .iload 3) :: (2, .iload 1) :: (1, .iastore) :: (2, .aload 0) :: (1, .checkcast 769) :: (2, .iload 3) :: (0, .ldc 1) :: (0, .iadd) :: (2, .iload 2) :: (1, .iastore) :: (2, .aload 0) :: (0, .dup) :: (1, .getfield 780) :: (0, .ldc 1) :: (0, .iadd) :: (1, .putfield 780) :: (2, .return_) :: []
def s159_0 : List Ins := (0, .ldc 6) :: (2, .invokevirtual 80385) :: s159_5
def tx_159 : Tx := [(0, 7, s159_0)]
-- 160: WellPumpsModel.readPart()Z
def s160_21 : List Ins := (2, .ifCond .eq 28) :: (0, .ldc 0) :: (2, .goto 55) :: []
def s160_4 : List Ins := (2, .aload 0) :: (1, .getfield 774) :: (2, .aload 0) :: (1, .getfield 776) :: (2, .if_icmp .le 70) :: (2, .aload 0) :: (0, .new 70222) :: (2, .invokevirtual 78034) :: s160_21
def s160_0 : List Ins := (2, .aload 0) :: (2, .invokevirtual 77521) :: s160_4
def s160_34 : List Ins := (2, .ifCond .eq 41) :: (0, .ldc 1) :: (2, .goto 55) :: []
def s160_28 : List Ins := (2, .aload 0) :: (0, .new 70223) :: (2, .invokevirtual 78034) :: s160_34
def s160_47 : List Ins := (2, .ifCond .eq 54) :: (0, .ldc 2) :: (2, .goto 55) :: []
def s160_41 : List Ins := (2, .aload 0) :: (0, .new 70224) :: (2, .invokevirtual 78034) :: s160_47
def s160_54 : List Ins := (0, .ldc_w 1) :: (2, .jsr 55) :: []
def s160_55 : List Ins := (2, .istore 1) :: (2, .iload 1) :: (2, .ifCond .ge 62) :: (0, .ldc 0) :: (2, .freturn) :: []
def s160_68 : List Ins := (0, .ldc 1) :: (2, .freturn) :: []
def s160_62 : List Ins := (2, .aload 0) :: (2, .iload 1) :: (0, .ldc 0) :: (2, .invokevirtual 81619) :: s160_68
def s160_76 : List Ins := (2, .istore 1) :: (2, .iload 1) :: (2, .ifCond .ge 83) :: (0, .ldc 0) :: (2, .freturn) :: []
def s160_70 : List Ins := (2, .aload 0) :: (0, .ldc 99) :: (2, .invokevirtual 79570) :: s160_76
def s160_90 : List Ins := (0, .ldc 1) :: (2, .freturn) :: []
def s160_83 : List Ins := (2, .aload 0) :: (0, .ldc 11) :: (2, .iload 1) :: (2, .invokevirtual 81619) :: s160_90
def tx_160 : Tx := [(0, 1, s160_0), (28, 1, s160_28), (41, 1, s160_41), (54, 1, s160_54), (55, 1, s160_55), (62, 3, s160_62), (70, 1, s160_70), (83, 3, s160_83)]
-- 161: WellPumpsModel.readSum()Z
def s161_4 : List Ins := (2, .ifCond .ne 9) :: (0, .ldc 0) :: (2, .freturn) :: []
def s161_0 : List Ins := (2, .aload 0) :: (2, .invokevirtual 82129) :: s161_4
def s161_22 : List Ins := (2, .ifCond .ne 27) :: (0, .ldc 0) :: (2, .freturn) :: []
def s161_15 : List Ins := (2, .ifCond .eq 37) :: (2, .aload 0) :: (2, .invokevirtual 82129) :: s161_22
def s161_9 : List Ins := (2, .aload 0) :: (0, .ldc 43) :: (2, .invokevirtual 79058) :: s161_15
def s161_34 : List Ins := (2, .goto 9) :: []
def s161_27 : List Ins := (2, .aload 0) :: (0, .ldc 12) :: (0, .ldc 0) :: (2, .invokevirtual 81619) :: s161_34
def s161_37 : List Ins := (0, .ldc 1) :: (2, .freturn) :: []
def tx_161 : Tx := [(0, 1, s161_0), (9, 1, s161_9), (27, 1, s161_27), (37, 0, s161_37)]
-- 162: WellPumpsModel.readAtom()Z
def s162_6 : List Ins := (2, .ifCond .eq 56) :: (2, .aload 0) :: (1, .getfield 777) :: (0, .ldc 6) :: (2, .if_icmp .ne 20) :: (0, .ldc 0) :: (2, .freturn) :: []
def s162_0 : List Ins := (2, .aload 0) :: (0, .ldc 40) :: (2, .invokevirtual 79058) :: s162_6
def s162_34 : List Ins := (2, .ifCond .ne 39) :: (0, .ldc 0) :: (2, .freturn) :: []
def s162_20 : List Ins := (2, .aload 0) :: (0, .dup) :: (1, .getfield 777) :: (0, .ldc 1) :: (0, .iadd) :: (1, .putfield 777) :: (2, .aload 0) :: (2, .invokevirtual 84177) :: s162_34
def s162_55 : List Ins := (2, .freturn) :: []
def s162_39 : List Ins := (2, .aload 0) :: (0, .dup) :: (1, .getfield 777) :: (0, .ldc 1) :: (0, .isub) :: (1, .putfield 777) :: (2, .aload 0) :: (0, .ldc 41) :: (2, .invokevirtual 79058) :: s162_55
def s162_62 : List Ins := (2, .ifCond .eq 114) :: (2, .aload 0) :: (1, .getfield 777) :: (0, .ldc 6) :: (2, .if_icmp .ne 76) :: (0, .ldc 0) :: (2, .freturn) :: []
def s162_56 : List Ins := (2, .aload 0) :: (0, .new 70220) :: (2, .invokevirtual 78546) :: s162_62
def s162_90 : List Ins := (2, .ifCond .ne 95) :: (0, .ldc 0) :: (2, .freturn) :: []
def s162_76 : List Ins := (2, .aload 0) :: (0, .dup) :: (1, .getfield 777) :: (0, .ldc 1) :: (0, .iadd) :: (1, .putfield 777) :: (2, .aload 0) :: (2, .invokevirtual 83153) :: s162_90
def s162_112 : List Ins := (0, .ldc 1) :: (2, .freturn) :: []
def s162_95 : List Ins := (2, .aload 0) :: (0, .dup) :: (1, .getfield 777) :: (0, .ldc 1) :: (0, .isub) :: (1, .putfield 777) :: (2, .aload 0) :: (0, .ldc 15) :: (0, .ldc 0) :: (2, .invokevirtual 81619) :: s162_112
def s162_130 : List Ins := (0, .ldc 1) :: (2, .freturn) :: []
def s162_120 : List Ins := (2, .ifCond .eq 132) :: (2, .aload 0) :: (0, .ldc 10) :: (0, .ldc 0) :: (2, .invokevirtual 81619) :: s162_130
def s162_114 : List Ins := (2, .aload 0) :: (0, .new 70221) :: (2, .invokevirtual 78546) :: s162_120
def s162_136 : List Ins := (2, .ifCond .ne 141) :: (0, .ldc 0) :: (2, .freturn) :: []
def s162_132 : List Ins := (2, .aload 0) :: (2, .invokevirtual 82641) :: s162_136
def s162_158 : List Ins := (2, .ifCond .eq 168) :: (2, .jsr 161) :: []
def s162_147 : List Ins := (2, .istore 1) :: (2, .iload 1) :: (2, .ifCond .ne 161) :: (2, .aload 0) :: (0, .ldc 62) :: (2, .invokevirtual 79058) :: s162_158
def s162_141 : List Ins := (2, .aload 0) :: (0, .ldc 60) :: (2, .invokevirtual 79058) :: s162_147
def s162_165 : List Ins := (2, .ifCond .ne 170) :: (2, .jsr 168) :: []
def s162_161 : List Ins := (2, .aload 0) :: (2, .invokevirtual 82641) :: s162_165
def s162_168 : List Ins := (0, .ldc 0) :: (2, .freturn) :: []
def s162_170 : List Ins := (2, .aload 0) :: (2, .iload 1) :: (2, .ifCond .eq 180) :: (0, .ldc 13) :: (2, .goto 182) :: []
def s162_180 : List Ins := (0, .ldc 14) :: (2, .jsr 182) :: []
def s162_186 : List Ins := (0, .ldc 1) :: (2, .freturn) :: []
def s162_182 : List Ins := (0, .ldc 0) :: (2, .invokevirtual 81619) :: s162_186
def tx_162 : Tx := [(0, 1, s162_0), (20, 1, s162_20), (39, 1, s162_39), (56, 1, s162_56), (76, 1, s162_76), (95, 1, s162_95), (114, 1, s162_114), (132, 1, s162_132), (141, 1, s162_141), (161, 3, s162_161), (168, 0, s162_168), (170, 3, s162_170), (180, 0, s162_180), (182, 0, s162_182)]
-- 163: WellPumpsModel.readAllOf()Z
def s163_4 : List Ins := (2, .ifCond .ne 9) :: (0, .ldc 0) :: (2, .freturn) :: []
def s163_0 : List Ins := (2, .aload 0) :: (2, .invokevirtual 83153) :: s163_4
def s163_22 : List Ins := (2, .ifCond .ne 27) :: (0, .ldc 0) :: (2, .freturn) :: []
def s163_15 : List Ins := (2, .ifCond .eq 37) :: (2, .aload 0) :: (2, .invokevirtual 83153) :: s163_22
def s163_9 : List Ins := (2, .aload 0) :: (0, .new 70225) :: (2, .invokevirtual 78546) :: s163_15
def s163_34 : List Ins := (2, .goto 9) :: []
def s163_27 : List Ins := (2, .aload 0) :: (0, .ldc 16) :: (0, .ldc 0) :: (2, .invokevirtual 81619) :: s163_34
def s163_37 : List Ins := (0, .ldc 1) :: (2, .freturn) :: []
def tx_163 : Tx := [(0, 1, s163_0), (9, 1, s163_9), (27, 1, s163_27), (37, 0, s163_37)]
-- 164: WellPumpsModel.readCond()Z
def s164_4 : List Ins := (2, .ifCond .ne 9) :: (0, .ldc 0) :: (2, .freturn) :: []
def s164_0 : List Ins := (2, .aload 0) :: (2, .invokevirtual 83665) :: s164_4
def s164_22 : List Ins := (2, .ifCond .ne 27) :: (0, .ldc 0) :: (2, .freturn) :: []
def s164_15 : List Ins := (2, .ifCond .eq 37) :: (2, .aload 0) :: (2, .invokevirtual 83665) :: s164_22
def s164_9 : List Ins := (2, .aload 0) :: (0, .new 70226) :: (2, .invokevirtual 78546) :: s164_15
def s164_34 : List Ins := (2, .goto 9) :: []
def s164_27 : List Ins := (2, .aload 0) :: (0, .ldc 17) :: (0, .ldc 0) :: (2, .invokevirtual 81619) :: s164_34
def s164_37 : List Ins := (0, .ldc 1) :: (2, .freturn) :: []
def tx_164 : Tx := [(0, 1, s164_0), (9, 1, s164_9), (27, 1, s164_27), (37, 0, s164_37)]
-- 165: WellPumpsModel.readLine(I)Z
def s165_16 : List Ins := (2, .ifCond .ne 21) :: (2, .jsr 19) :: []
def s165_4 : List Ins := (2, .iload 1) :: (0, .ldc 10) :: (2, .if_icmp .eq 19) :: (2, .aload 0) :: (0, .new 70218) :: (2, .invokevirtual 78034) :: s165_16
def s165_0 : List Ins := (2, .aload 0) :: (2, .invokevirtual 77521) :: s165_4
def s165_19 : List Ins := (0, .ldc 0) :: (2, .freturn) :: []
def s165_38 : List Ins := (1, .iastore) :: (2, .aload 0) :: (1, .checkcast 769) :: (2, .iload 2) :: (0, .ldc 1) :: (0, .iadd) :: (2, .aload 0) :: (1, .getfield 780) :: (1, .iastore) :: (2, .aload 0) :: (1, .checkcast 769) :: (2, .iload 2) :: (1, .iaload) :: (2, .ifCond .ge 62) :: (0, .ldc 0) :: (2, .freturn) :: []
def s165_27 : List Ins := (2, .istore 2) :: (2, .aload 0) :: (1, .checkcast 769) :: (2, .iload 2) :: (2, .aload 0) :: (0, .ldc 3) :: (2, .invokevirtual 79570) :: s165_38
def s165_21 : List Ins := (0, .ldc 6) :: (2, .iload 1) :: (2, .invokevirtual 80898) :: s165_27
def s165_80 : List Ins := (2, .ifCond .ne 85) :: (0, .ldc 0) :: (2, .freturn) :: []
def s165_73 : List Ins := (2, .ifCond .eq 85) :: (2, .aload 0) :: (2, .invokevirtual 84177) :: s165_80
def s165_62 : List Ins := (2, .aload 0) :: (0, .ldc 0) :: (1, .putfield 777) :: (2, .aload 0) :: (0, .new 70219) :: (2, .invokevirtual 78546) :: s165_73
def s165_85 : List Ins := (2, .aload 0) :: (1, .checkcast 769) :: (2, .iload 2) :: (0, .ldc 2) :: (0, .iadd) :: (2, .aload 0) :: (1, .getfield 780) :: (1, .iastore) :: (0, .ldc 1) :: (2, .freturn) :: []
def tx_165 : Tx := [(0, 3, s165_0), (19, 0, s165_19), (21, 3, s165_21), (62, 5, s165_62), (85, 5, s165_85)]
-- 166: WellPumpsModel.readAll()I
def s166_4 : List Ins := (2, .aload 0) :: (1, .getfield 774) :: (2, .aload 0) :: (1, .getfield 775) :: (2, .if_icmp .ne 17) :: (0, .ldc 0) :: (2, .ireturn) :: []
def s166_0 : List Ins := (2, .aload 0) :: (2, .invokevirtual 77009) :: s166_4
def s166_17 : List Ins := (0, .ldc 0) :: (2, .istore 1) :: (2, .jsr 19) :: []
def s166_24 : List Ins := (2, .ifCond .ne 29) :: (0, .ldc_w 1) :: (2, .ireturn) :: []
def s166_19 : List Ins := (2, .aload 0) :: (2, .iload 1) :: (2, .invokevirtual 84690) :: s166_24
def s166_33 : List Ins := (2, .aload 0) :: (1, .getfield 774) :: (2, .aload 0) :: (1, .getfield 775) :: (2, .if_icmp .ne 48) :: (2, .iload 1) :: (0, .ldc 1) :: (0, .iadd) :: (2, .ireturn) :: []
def s166_29 : List Ins := (2, .aload 0) :: (2, .invokevirtual 77009) :: s166_33
def s166_56 : List Ins := (2, .ifCond .ne 61) :: (0, .ldc_w 1) :: (2, .ireturn) :: []
def s166_48 : List Ins := (2, .aload 0) :: (0, .ldc 59) :: (0, .ldc 59) :: (2, .invokevirtual 76499) :: s166_56
def s166_61 : List Ins := (2, .aload 0) :: (0, .dup) :: (1, .getfield 774) :: (0, .ldc 1) :: (0, .iadd) :: (1, .putfield 774) :: (2, .iinc 1 1) :: (2, .goto 19) :: []
def tx_166 : Tx := [(0, 1, s166_0), (17, 1, s166_17), (19, 3, s166_19), (29, 3, s166_29), (48, 3, s166_48), (61, 3, s166_61)]
-- 167: WellPumpsModel.draw()I
def s167_8 : List Ins := (2, .istore 1) :: (2, .aload 0) :: (2, .iload 1) :: (2, .ifCond .ge 21) :: (2, .aload 0) :: (1, .getfield 776) :: (2, .goto 22) :: []
def s167_4 : List Ins := (2, .aload 0) :: (2, .invokevirtual 85201) :: s167_8
def s167_0 : List Ins := (2, .aload 0) :: (2, .invokevirtual 75985) :: s167_4
def s167_21 : List Ins := (0, .ldc_w 1) :: (2, .jsr 22) :: []
def s167_22 : List Ins := (1, .putfield 778) :: (2, .aload 0) :: (2, .iload 1) :: (2, .ifCond .ge 34) :: (0, .ldc 1) :: (2, .goto 35) :: []
def s167_34 : List Ins := (0, .ldc 0) :: (2, .jsr 35) :: []
def s167_39 : List Ins := (2, .ifCond .ne 67) :: (2, .aload 0) :: (2, .aload 0) :: (1, .checkcast 769) :: (0, .ldc 11) :: (1, .iaload) :: (0, .ldc 6) :: (2, .if_icmp .ne 59) :: (0, .ldc 1) :: (2, .goto 60) :: []
def s167_35 : List Ins := (0, .ldc 1) :: (2, .invokevirtual 66771) :: s167_39
def s167_59 : List Ins := (0, .ldc 0) :: (2, .jsr 60) :: []
def s167_64 : List Ins := (2, .ifCond .eq 69) :: (2, .jsr 67) :: []
def s167_60 : List Ins := (0, .ldc 2) :: (2, .invokevirtual 66771) :: s167_64
def s167_67 : List Ins := (0, .ldc 0) :: (2, .ireturn) :: []
def s167_69 : List Ins := (2, .aload 0) :: (1, .checkcast 769) :: (0, .ldc 11) :: (1, .iaload) :: (2, .istore 2) :: (2, .aload 0) :: (1, .checkcast 769) :: (0, .ldc 11) :: (0, .dup2) :: (1, .iaload) :: (0, .ldc 1) :: (0, .iadd) :: (1, .iastore) :: (0, .ldc 0) :: (2, .istore 3) :: (2, .jsr 90) :: []
def s167_116 : List Ins := (2, .iload 3) :: (0, .iadd) :: (1, .iaload) :: (1, .iastore) :: (2, .iinc 3 1) :: (2, .goto 90) :: []
def s167_105 : List Ins := (2, .iload 3) :: (0, .iadd) :: (2, .aload 0) :: (1, .checkcast 769) :: (0, .ldc 6) :: (2, .invokevirtual 80385) :: s167_116
def s167_90 : List Ins := (2, .iload 3) :: (0, .ldc 831) :: (2, .if_icmp .ge 126) :: (2, .aload 0) :: (1, .checkcast 769) :: (2, .iload 2) :: (2, .invokevirtual 80385) :: s167_105
def s167_134 : List Ins := (2, .iload 1) :: (1, .iastore) :: (2, .iload 2) :: (2, .ireturn) :: []
def s167_126 : List Ins := (2, .aload 0) :: (1, .checkcast 769) :: (2, .iload 2) :: (2, .invokevirtual 80385) :: s167_134
def tx_167 : Tx := [(0, 1, s167_0), (21, 3, s167_21), (22, 3, s167_22), (34, 3, s167_34), (35, 3, s167_35), (59, 3, s167_59), (60, 3, s167_60), (67, 0, s167_67), (69, 3, s167_69), (90, 15, s167_90), (126, 7, s167_126)]
-- 168: WellPumpsModel.by(II)Z
def s168_24 : List Ins := (2, .ifCond .eq 31) :: (2, .jsr 27) :: []
def s168_11 : List Ins := (2, .ifCond .ne 27) :: (2, .iload 2) :: (0, .ldc_w 1) :: (2, .if_icmp .eq 31) :: (2, .aload 0) :: (2, .iload 2) :: (2, .invokevirtual 71378) :: s168_24
def s168_0 : List Ins := (2, .aload 0) :: (0, .ldc 0) :: (1, .putfield 768) :: (2, .aload 0) :: (2, .aload 0) :: (2, .iload 1) :: (2, .invokevirtual 70866) :: s168_11
def s168_27 : List Ins := (0, .ldc 1) :: (2, .goto 32) :: []
def s168_31 : List Ins := (0, .ldc 0) :: (2, .jsr 32) :: []
def s168_36 : List Ins := (2, .ifCond .eq 41) :: (0, .ldc 0) :: (2, .freturn) :: []
def s168_32 : List Ins := (0, .ldc 1) :: (2, .invokevirtual 66771) :: s168_36
def s168_41 : List Ins := (0, .ldc 17) :: (0, .ldc 5) :: (2, .iload 1) :: (0, .imul) :: (0, .iadd) :: (0, .ldc 4) :: (0, .iadd) :: (2, .istore 3) :: (2, .aload 0) :: (1, .checkcast 769) :: (2, .iload 3) :: (1, .iaload) :: (2, .iload 2) :: (2, .if_icmp .ne 62) :: (0, .ldc 0) :: (2, .freturn) :: []
def s168_62 : List Ins := (2, .aload 0) :: (1, .checkcast 769) :: (2, .iload 3) :: (2, .iload 2) :: (1, .iastore) :: (0, .ldc 1) :: (2, .freturn) :: []
def tx_168 : Tx := [(0, 7, s168_0), (27, 7, s168_27), (31, 7, s168_31), (32, 7, s168_32), (41, 7, s168_41), (62, 13, s168_62)]
-- 169: WellPumpsModel.holds(IIIIZ)Z
def s169_8 : List Ins := (2, .istore 7) :: (2, .aload 0) :: (1, .checkcast 769) :: (2, .iload 7) :: (0, .ldc 1) :: (0, .iadd) :: (1, .iaload) :: (2, .istore 8) :: (2, .jsr 21) :: []
def s169_0 : List Ins := (0, .ldc 0) :: (2, .istore 6) :: (2, .iload 1) :: (2, .iload 2) :: (2, .invokevirtual 80898) :: s169_8
def s169_82 : List Ins := (0, .ldc 31) :: (0, .iadd) :: (0, .ldc 2) :: (2, .iload 8) :: (0, .imul) :: (0, .iadd) :: (0, .ldc 1) :: (0, .iadd) :: (1, .iaload) :: (2, .goto 140) :: []
def s169_43 : List Ins := (0, .ldc 31) :: (0, .iadd) :: (0, .ldc 2) :: (2, .iload 8) :: (0, .imul) :: (0, .iadd) :: (1, .iaload) :: (2, .istore 9) :: (2, .iload 9) :: (0, .ldc 11) :: (2, .if_icmp .gt 147) :: (2, .aload 0) :: (1, .checkcast 781) :: (2, .iload 6) :: (2, .iload 9) :: (0, .ldc 11) :: (2, .if_icmp .ne 96) :: (2, .aload 0) :: (1, .checkcast 769) :: (2, .iload 1) :: (2, .invokevirtual 80385) :: s169_82
def s169_21 : List Ins := (2, .iload 8) :: (2, .aload 0) :: (1, .checkcast 769) :: (2, .iload 7) :: (0, .ldc 2) :: (0, .iadd) :: (1, .iaload) :: (2, .if_icmp .ge 323) :: (2, .aload 0) :: (1, .checkcast 769) :: (2, .iload 1) :: (2, .invokevirtual 80385) :: s169_43
def s169_96 : List Ins := (2, .iload 9) :: (0, .ldc 10) :: (2, .if_icmp .ne 116) :: (2, .iload 5) :: (2, .ifCond .eq 112) :: (0, .ldc 1) :: (2, .goto 140) :: []
def s169_112 : List Ins := (0, .ldc 0) :: (2, .goto 140) :: []
def s169_116 : List Ins := (2, .iload 9) :: (2, .ifCond .ne 125) :: (2, .iload 3) :: (2, .goto 140) :: []
def s169_135 : List Ins := (2, .goto 140) :: []
def s169_125 : List Ins := (2, .iload 9) :: (0, .ldc 1) :: (2, .if_icmp .ne 138) :: (2, .aload 0) :: (2, .invokevirtual 68817) :: s169_135
def s169_138 : List Ins := (2, .iload 4) :: (2, .jsr 140) :: []
def s169_140 : List Ins := (1, .iastore) :: (2, .iinc 6 1) :: (2, .goto 317) :: []
def s169_147 : List Ins := (2, .iload 9) :: (0, .ldc 15) :: (2, .if_icmp .ne 177) :: (2, .aload 0) :: (1, .checkcast 781) :: (2, .iload 6) :: (0, .ldc 1) :: (0, .isub) :: (0, .ldc 1) :: (2, .aload 0) :: (1, .checkcast 781) :: (2, .iload 6) :: (0, .ldc 1) :: (0, .isub) :: (1, .iaload) :: (0, .isub) :: (1, .iastore) :: (2, .goto 317) :: []
def s169_177 : List Ins := (2, .iinc 6 (-1)) :: (2, .aload 0) :: (1, .checkcast 781) :: (2, .iload 6) :: (0, .ldc 1) :: (0, .isub) :: (1, .iaload) :: (2, .istore 10) :: (2, .aload 0) :: (1, .checkcast 781) :: (2, .iload 6) :: (1, .iaload) :: (2, .istore 11) :: (2, .iload 9) :: (0, .ldc 13) :: (2, .if_icmp .ne 222) :: (2, .iload 10) :: (2, .iload 11) :: (2, .if_icmp .ge 218) :: (0, .ldc 1) :: (2, .goto 281) :: []
def s169_218 : List Ins := (0, .ldc 0) :: (2, .goto 281) :: []
def s169_222 : List Ins := (2, .iload 9) :: (0, .ldc 14) :: (2, .if_icmp .ne 244) :: (2, .iload 10) :: (2, .iload 11) :: (2, .if_icmp .le 240) :: (0, .ldc 1) :: (2, .goto 281) :: []
def s169_240 : List Ins := (0, .ldc 0) :: (2, .goto 281) :: []
def s169_244 : List Ins := (2, .iload 9) :: (0, .ldc 16) :: (2, .if_icmp .ne 268) :: (2, .iload 10) :: (2, .iload 11) :: (0, .iadd) :: (0, .ldc 2) :: (2, .if_icmp .ne 264) :: (0, .ldc 1) :: (2, .goto 281) :: []
def s169_264 : List Ins := (0, .ldc 0) :: (2, .goto 281) :: []
def s169_268 : List Ins := (2, .iload 10) :: (2, .iload 11) :: (0, .iadd) :: (2, .ifCond .le 280) :: (0, .ldc 1) :: (2, .goto 281) :: []
def s169_280 : List Ins := (0, .ldc 0) :: (2, .jsr 281) :: []
def s169_281 : List Ins := (2, .istore 12) :: (2, .aload 0) :: (1, .checkcast 781) :: (2, .iload 6) :: (0, .ldc 1) :: (0, .isub) :: (2, .iload 9) :: (0, .ldc 12) :: (2, .if_icmp .ne 306) :: (2, .iload 10) :: (2, .iload 11) :: (0, .iadd) :: (2, .goto 316) :: []
def s169_306 : List Ins := (2, .iload 12) :: (2, .ifCond .eq 315) :: (0, .ldc 1) :: (2, .goto 316) :: []
def s169_315 : List Ins := (0, .ldc 0) :: (2, .jsr 316) :: []
def s169_316 : List Ins := (1, .iastore) :: (2, .jsr 317) :: []
def s169_317 : List Ins := (2, .iinc 8 1) :: (2, .goto 21) :: []
def s169_323 : List Ins := (2, .iload 6) :: (2, .ifCond .eq 338) :: (2, .aload 0) :: (1, .checkcast 781) :: (0, .ldc 0) :: (1, .iaload) :: (0, .ldc 1) :: (2, .if_icmp .ne 342) :: (2, .jsr 338) :: []
def s169_338 : List Ins := (0, .ldc 1) :: (2, .goto 343) :: []
def s169_342 : List Ins := (0, .ldc 0) :: (2, .jsr 343) :: []
def s169_343 : List Ins := (2, .freturn) :: []
def tx_169 : Tx := [(0, 63, s169_0), (21, 507, s169_21), (96, 1019, s169_96), (112, 507, s169_112), (116, 1019, s169_116), (125, 1019, s169_125), (138, 507, s169_138), (140, 507, s169_140), (147, 1019, s169_147), (177, 1019, s169_177), (218, 4091, s169_218), (222, 4091, s169_222), (240, 4091, s169_240), (244, 4091, s169_244), (264, 4091, s169_264), (268, 4091, s169_268), (280, 4091, s169_280), (281, 4091, s169_281), (306, 4603, s169_306), (315, 507, s169_315), (316, 507, s169_316), (317, 507, s169_317), (323, 65, s169_323), (338, 0, s169_338), (342, 0, s169_342), (343, 0, s169_343)]
-- 170: WellPumpsModel.drawn(IIIZ)I
def s170_0 : List Ins := (2, .iload 1) :: (2, .ifCond .ge 6) :: (0, .ldc 0) :: (2, .ireturn) :: []
def s170_6 : List Ins := (0, .ldc 0) :: (2, .istore 5) :: (2, .jsr 9) :: []
def s170_47 : List Ins := (1, .iaload) :: (2, .ireturn) :: []
def s170_34 : List Ins := (2, .ifCond .eq 49) :: (2, .aload 0) :: (1, .checkcast 769) :: (2, .iload 1) :: (2, .iload 5) :: (2, .invokevirtual 80898) :: s170_47
def s170_19 : List Ins := (1, .iaload) :: (2, .if_icmp .ge 55) :: (2, .aload 0) :: (2, .iload 1) :: (2, .iload 5) :: (2, .iload 2) :: (2, .iload 3) :: (2, .iload 4) :: (2, .invokevirtual 86742) :: s170_34
def s170_9 : List Ins := (2, .iload 5) :: (2, .aload 0) :: (1, .checkcast 769) :: (2, .iload 1) :: (2, .invokevirtual 80385) :: s170_19
def s170_49 : List Ins := (2, .iinc 5 1) :: (2, .goto 9) :: []
def s170_55 : List Ins := (0, .ldc 0) :: (2, .ireturn) :: []
def tx_170 : Tx := [(0, 31, s170_0), (6, 31, s170_6), (9, 63, s170_9), (49, 63, s170_49), (55, 0, s170_55)]
-- 171: WellPumpsModel.wantOf(IIZ)I
def s171_22 : List Ins := (2, .goto 29) :: []
def s171_0 : List Ins := (2, .aload 0) :: (1, .getfield 782) :: (2, .ifCond .lt 30) :: (2, .iload 3) :: (2, .ifCond .eq 25) :: (2, .aload 0) :: (2, .aload 0) :: (1, .getfield 783) :: (2, .iload 2) :: (2, .iload 1) :: (0, .ldc 1) :: (2, .invokevirtual 87253) :: s171_22
def s171_25 : List Ins := (2, .aload 0) :: (1, .getfield 782) :: (2, .jsr 29) :: []
def s171_29 : List Ins := (2, .ireturn) :: []
def s171_50 : List Ins := (2, .ireturn) :: []
def s171_30 : List Ins := (2, .aload 0) :: (2, .aload 0) :: (1, .checkcast 769) :: (0, .ldc 17) :: (0, .ldc 5) :: (2, .iload 1) :: (0, .imul) :: (0, .iadd) :: (0, .ldc 4) :: (0, .iadd) :: (1, .iaload) :: (2, .iload 2) :: (2, .iload 1) :: (2, .iload 3) :: (2, .invokevirtual 87253) :: s171_50
def tx_171 : Tx := [(0, 15, s171_0), (25, 1, s171_25), (29, 0, s171_29), (30, 15, s171_30)]
-- 172: WellPumpsModel.gainOf(IIII)I
def s172_0 : List Ins := (0, .ldc 17) :: (0, .ldc 5) :: (2, .iload 1) :: (0, .imul) :: (0, .iadd) :: (2, .istore 5) :: (0, .ldc 32) :: (0, .ldc 5) :: (2, .iload 4) :: (0, .imul) :: (0, .iadd) :: (2, .istore 6) :: (2, .iload 2) :: (2, .ifCond .ne 25) :: (0, .ldc 0) :: (2, .goto 36) :: []
def s172_25 : List Ins := (2, .aload 0) :: (1, .checkcast 769) :: (2, .iload 5) :: (2, .iload 2) :: (0, .iadd) :: (0, .ldc 1) :: (0, .isub) :: (1, .iaload) :: (2, .jsr 36) :: []
def s172_88 : List Ins := (2, .aload 0) :: (1, .checkcast 769) :: (2, .iload 6) :: (0, .ldc 3) :: (0, .iadd) :: (1, .iaload) :: (0, .imul) :: (2, .aload 0) :: (1, .checkcast 769) :: (2, .iload 6) :: (0, .ldc 4) :: (0, .iadd) :: (1, .iaload) :: (0, .imul) :: (0, .isub) :: (2, .ireturn) :: []
def s172_51 : List Ins := (2, .iload 3) :: (0, .isub) :: (0, .imul) :: (0, .isub) :: (2, .iload 2) :: (2, .aload 0) :: (1, .checkcast 769) :: (2, .iload 6) :: (0, .ldc 0) :: (0, .iadd) :: (1, .iaload) :: (0, .imul) :: (0, .isub) :: (2, .istore 7) :: (0, .ldc 4) :: (2, .iload 7) :: (0, .imul) :: (0, .ldc 0) :: (2, .iload 2) :: (2, .aload 0) :: (1, .checkcast 769) :: (2, .iload 6) :: (0, .ldc 2) :: (0, .iadd) :: (1, .iaload) :: (0, .isub) :: (2, .invokevirtual 117762) :: s172_88
def s172_36 : List Ins := (2, .iload 2) :: (2, .aload 0) :: (1, .checkcast 769) :: (2, .iload 5) :: (0, .ldc 3) :: (0, .iadd) :: (1, .iaload) :: (0, .imul) :: (2, .aload 0) :: (2, .invokevirtual 68817) :: s172_51
def tx_172 : Tx := [(0, 31, s172_0), (25, 109, s172_25), (36, 109, s172_36)]
-- 173: WellPumpsModel.year(II)V
def s173_19 : List Ins := (2, .istore 3) :: (0, .ldc 0) :: (2, .istore 4) :: (2, .aload 0) :: (0, .ldc 0) :: (1, .putfield 789) :: (0, .ldc 0) :: (2, .istore 5) :: (2, .jsr 31) :: []
def s173_0 : List Ins := (0, .ldc 0) :: (2, .iload 1) :: (2, .aload 0) :: (1, .checkcast 769) :: (0, .ldc 32) :: (0, .ldc 5) :: (2, .iload 2) :: (0, .imul) :: (0, .iadd) :: (0, .ldc 1) :: (0, .iadd) :: (1, .iaload) :: (0, .isub) :: (2, .invokevirtual 117762) :: s173_19
def s173_101 : List Ins := (1, .iastore) :: (2, .aload 0) :: (0, .dup) :: (1, .getfield 789) :: (2, .aload 0) :: (1, .checkcast 786) :: (2, .iload 5) :: (1, .iaload) :: (0, .iadd) :: (1, .putfield 789) :: (2, .iinc 5 1) :: (2, .goto 31) :: []
def s173_57 : List Ins := (1, .iastore) :: (2, .iload 3) :: (2, .aload 0) :: (1, .checkcast 785) :: (2, .iload 5) :: (1, .iaload) :: (0, .isub) :: (2, .istore 3) :: (2, .iload 4) :: (2, .aload 0) :: (1, .checkcast 785) :: (2, .iload 5) :: (1, .iaload) :: (0, .iadd) :: (2, .istore 4) :: (2, .aload 0) :: (1, .checkcast 786) :: (2, .iload 5) :: (2, .aload 0) :: (2, .iload 5) :: (2, .aload 0) :: (1, .checkcast 785) :: (2, .iload 5) :: (1, .iaload) :: (2, .iload 1) :: (2, .iload 2) :: (2, .invokevirtual 88277) :: s173_101
def s173_37 : List Ins := (2, .if_icmp .ge 124) :: (2, .aload 0) :: (1, .checkcast 785) :: (2, .iload 5) :: (2, .aload 0) :: (1, .checkcast 784) :: (2, .iload 5) :: (1, .iaload) :: (2, .iload 3) :: (2, .invokevirtual 118274) :: s173_57
def s173_31 : List Ins := (2, .iload 5) :: (2, .aload 0) :: (2, .invokevirtual 69329) :: s173_37
def s173_124 : List Ins := (2, .aload 0) :: (2, .iload 1) :: (2, .iload 4) :: (0, .isub) :: (1, .putfield 787) :: (2, .aload 0) :: (2, .aload 0) :: (1, .checkcast 769) :: (0, .ldc 1) :: (1, .iaload) :: (2, .ifCond .lt 159) :: (2, .aload 0) :: (1, .getfield 787) :: (2, .aload 0) :: (1, .checkcast 769) :: (0, .ldc 1) :: (1, .iaload) :: (2, .if_icmp .le 159) :: (0, .ldc 1) :: (2, .goto 160) :: []
def s173_159 : List Ins := (0, .ldc 0) :: (2, .jsr 160) :: []
def s173_160 : List Ins := (1, .putfield 788) :: (2, .aload 0) :: (0, .dup) :: (1, .getfield 787) :: (2, .aload 0) :: (1, .getfield 788) :: (0, .isub) :: (1, .putfield 787) :: (2, .return_) :: []
def tx_173 : Tx := [(0, 7, s173_0), (31, 63, s173_31), (124, 19, s173_124), (159, 1, s173_159), (160, 1, s173_160)]
-- 174: WellPumpsModel.ruleNow()I
def s174_0 : List Ins := (2, .aload 0) :: (1, .checkcast 769) :: (0, .ldc 10) :: (1, .iaload) :: (2, .ireturn) :: []
def tx_174 : Tx := [(0, 1, s174_0)]
-- 175: WellPumpsModel.wantNow(IZ)V
def s175_0 : List Ins := (0, .ldc 0) :: (2, .istore 3) :: (2, .jsr 2) :: []
def s175_22 : List Ins := (1, .iastore) :: (2, .iinc 3 1) :: (2, .goto 2) :: []
def s175_7 : List Ins := (2, .if_icmp .ge 29) :: (2, .aload 0) :: (1, .checkcast 784) :: (2, .iload 3) :: (2, .aload 0) :: (2, .iload 3) :: (2, .iload 1) :: (2, .iload 2) :: (2, .invokevirtual 87764) :: s175_22
def s175_2 : List Ins := (2, .iload 3) :: (2, .aload 0) :: (2, .invokevirtual 69329) :: s175_7
def s175_29 : List Ins := (2, .return_) :: []
def tx_175 : Tx := [(0, 7, s175_0), (2, 15, s175_2), (29, 0, s175_29)]
-- 176: WellPumpsModel.yearNow(IZ)V
def s176_15 : List Ins := (2, .return_) :: []
def s176_12 : List Ins := (2, .invokevirtual 88787) :: s176_15
def s176_6 : List Ins := (2, .aload 0) :: (2, .iload 1) :: (2, .aload 0) :: (2, .invokevirtual 89297) :: s176_12
def s176_0 : List Ins := (2, .aload 0) :: (2, .iload 1) :: (2, .iload 2) :: (2, .invokevirtual 89811) :: s176_6
def tx_176 : Tx := [(0, 7, s176_0)]
-- 177: WellPumpsModel.rained(II)I
def s177_10 : List Ins := (2, .ireturn) :: []
def s177_4 : List Ins := (2, .iload 1) :: (2, .iload 2) :: (0, .iadd) :: (2, .invokevirtual 118274) :: s177_10
def s177_0 : List Ins := (2, .aload 0) :: (2, .invokevirtual 68817) :: s177_4
def tx_177 : Tx := [(0, 7, s177_0)]
-- 178: WellPumpsModel.wants(IIZZ)I
def s178_19 : List Ins := (2, .ifCond .eq 26) :: (2, .jsr 22) :: []
def s178_11 : List Ins := (2, .ifCond .ne 22) :: (2, .aload 0) :: (2, .iload 2) :: (2, .invokevirtual 70354) :: s178_19
def s178_0 : List Ins := (2, .aload 0) :: (0, .ldc 0) :: (1, .putfield 768) :: (2, .aload 0) :: (2, .aload 0) :: (2, .iload 1) :: (2, .invokevirtual 70866) :: s178_11
def s178_22 : List Ins := (0, .ldc 1) :: (2, .goto 27) :: []
def s178_26 : List Ins := (0, .ldc 0) :: (2, .jsr 27) :: []
def s178_31 : List Ins := (2, .ifCond .eq 36) :: (0, .ldc 0) :: (2, .ireturn) :: []
def s178_27 : List Ins := (0, .ldc 1) :: (2, .invokevirtual 66771) :: s178_31
def s178_42 : List Ins := (2, .iload 4) :: (2, .ifCond .eq 56) :: (2, .aload 0) :: (1, .checkcast 785) :: (2, .iload 1) :: (1, .iaload) :: (2, .goto 62) :: []
def s178_36 : List Ins := (2, .aload 0) :: (2, .iload 2) :: (2, .iload 3) :: (2, .invokevirtual 90323) :: s178_42
def s178_56 : List Ins := (2, .aload 0) :: (1, .checkcast 784) :: (2, .iload 1) :: (1, .iaload) :: (2, .jsr 62) :: []
def s178_62 : List Ins := (2, .ireturn) :: []
def tx_178 : Tx := [(0, 31, s178_0), (22, 31, s178_22), (26, 31, s178_26), (27, 31, s178_27), (36, 31, s178_36), (56, 3, s178_56), (62, 0, s178_62)]
-- 179: WellPumpsModel.gains(IIZ)I
def s179_19 : List Ins := (2, .ifCond .eq 26) :: (2, .jsr 22) :: []
def s179_11 : List Ins := (2, .ifCond .ne 22) :: (2, .aload 0) :: (2, .iload 2) :: (2, .invokevirtual 70354) :: s179_19
def s179_0 : List Ins := (2, .aload 0) :: (0, .ldc 0) :: (1, .putfield 768) :: (2, .aload 0) :: (2, .aload 0) :: (2, .iload 1) :: (2, .invokevirtual 70866) :: s179_11
def s179_22 : List Ins := (0, .ldc 1) :: (2, .goto 27) :: []
def s179_26 : List Ins := (0, .ldc 0) :: (2, .jsr 27) :: []
def s179_31 : List Ins := (2, .ifCond .eq 36) :: (0, .ldc 0) :: (2, .ireturn) :: []
def s179_27 : List Ins := (0, .ldc 1) :: (2, .invokevirtual 66771) :: s179_31
def s179_42 : List Ins := (2, .aload 0) :: (1, .checkcast 786) :: (2, .iload 1) :: (1, .iaload) :: (2, .ireturn) :: []
def s179_36 : List Ins := (2, .aload 0) :: (2, .iload 2) :: (2, .iload 3) :: (2, .invokevirtual 90323) :: s179_42
def tx_179 : Tx := [(0, 15, s179_0), (22, 15, s179_22), (26, 15, s179_26), (27, 15, s179_27), (36, 15, s179_36)]
-- 180: WellPumpsModel.next(IZI)I
def s180_19 : List Ins := (2, .ifCond .eq 26) :: (2, .jsr 22) :: []
def s180_11 : List Ins := (2, .ifCond .ne 22) :: (2, .aload 0) :: (2, .iload 3) :: (2, .invokevirtual 70354) :: s180_19
def s180_0 : List Ins := (2, .aload 0) :: (0, .ldc 0) :: (1, .putfield 768) :: (2, .aload 0) :: (2, .aload 0) :: (2, .iload 1) :: (2, .invokevirtual 70354) :: s180_11
def s180_22 : List Ins := (0, .ldc 1) :: (2, .goto 27) :: []
def s180_26 : List Ins := (0, .ldc 0) :: (2, .jsr 27) :: []
def s180_31 : List Ins := (2, .ifCond .eq 36) :: (0, .ldc 0) :: (2, .ireturn) :: []
def s180_27 : List Ins := (0, .ldc 1) :: (2, .invokevirtual 66771) :: s180_31
def s180_42 : List Ins := (0, .ldc 0) :: (2, .istore 4) :: (0, .ldc 0) :: (2, .istore 5) :: (2, .jsr 48) :: []
def s180_36 : List Ins := (2, .aload 0) :: (2, .iload 1) :: (2, .iload 2) :: (2, .invokevirtual 90323) :: s180_42
def s180_66 : List Ins := (2, .iload 3) :: (2, .if_icmp .ne 82) :: (2, .aload 0) :: (1, .checkcast 769) :: (0, .ldc 2) :: (2, .iload 5) :: (0, .iadd) :: (1, .iaload) :: (2, .goto 83) :: []
def s180_48 : List Ins := (2, .iload 5) :: (0, .ldc 4) :: (2, .if_icmp .ge 92) :: (2, .iload 4) :: (2, .aload 0) :: (2, .aload 0) :: (1, .getfield 787) :: (2, .iload 5) :: (2, .invokevirtual 90835) :: s180_66
def s180_82 : List Ins := (0, .ldc 0) :: (2, .jsr 83) :: []
def s180_83 : List Ins := (0, .iadd) :: (2, .istore 4) :: (2, .iinc 5 1) :: (2, .goto 48) :: []
def s180_92 : List Ins := (2, .iload 4) :: (2, .ireturn) :: []
def tx_180 : Tx := [(0, 15, s180_0), (22, 15, s180_22), (26, 15, s180_26), (27, 15, s180_27), (36, 15, s180_36), (48, 57, s180_48), (82, 41, s180_82), (83, 41, s180_83), (92, 16, s180_92)]
-- 181: WellPumpsModel.common(JJ)J
def s181_10 : List Ins := (2, .lstore 6) :: (2, .jsr 12) :: []
def s181_4 : List Ins := (2, .lstore 4) :: (2, .lload 2) :: (2, .invokevirtual 117249) :: s181_10
def s181_0 : List Ins := (2, .lload 0) :: (2, .invokevirtual 117249) :: s181_4
def s181_12 : List Ins := (2, .lload 6) :: (0, .ldc2_w 0) :: (0, .lcmp) :: (2, .ifCond .le 37) :: (2, .lload 4) :: (2, .lload 6) :: (0, .lrem) :: (2, .lstore 8) :: (2, .lload 6) :: (2, .lstore 4) :: (2, .lload 8) :: (2, .lstore 6) :: (2, .goto 12) :: []
def s181_37 : List Ins := (2, .lload 4) :: (2, .lreturn) :: []
def tx_181 : Tx := [(0, 5, s181_0), (12, 80, s181_12), (37, 16, s181_37)]
-- 182: WellPumpsModel.compared(JJJJ)I
def s182_0 : List Ins := (2, .lload 0) :: (2, .lstore 8) :: (2, .lload 2) :: (2, .lstore 10) :: (2, .lload 4) :: (2, .lstore 12) :: (2, .lload 6) :: (2, .lstore 14) :: (0, .ldc 1) :: (2, .istore 16) :: (2, .jsr 17) :: []
def s182_33 : List Ins := (2, .lstore 19) :: (2, .lload 17) :: (2, .lload 19) :: (0, .lcmp) :: (2, .ifCond .eq 60) :: (2, .lload 17) :: (2, .lload 19) :: (0, .lcmp) :: (2, .ifCond .ge 57) :: (2, .iload 16) :: (0, .ineg) :: (2, .goto 59) :: []
def s182_24 : List Ins := (2, .lstore 17) :: (2, .lload 12) :: (2, .lload 14) :: (2, .invokevirtual 115714) :: s182_33
def s182_17 : List Ins := (2, .lload 8) :: (2, .lload 10) :: (2, .invokevirtual 115714) :: s182_24
def s182_57 : List Ins := (2, .iload 16) :: (2, .jsr 59) :: []
def s182_59 : List Ins := (2, .ireturn) :: []
def s182_60 : List Ins := (2, .lload 8) :: (2, .lload 17) :: (2, .lload 10) :: (0, .lmul) :: (0, .lsub) :: (2, .lstore 21) :: (2, .lload 12) :: (2, .lload 19) :: (2, .lload 14) :: (0, .lmul) :: (0, .lsub) :: (2, .lstore 23) :: (2, .lload 21) :: (0, .ldc2_w 0) :: (0, .lcmp) :: (2, .ifCond .eq 94) :: (2, .lload 23) :: (0, .ldc2_w 0) :: (0, .lcmp) :: (2, .ifCond .ne 122) :: (2, .jsr 94) :: []
def s182_94 : List Ins := (2, .lload 21) :: (2, .lload 23) :: (0, .lcmp) :: (2, .ifCond .ne 106) :: (0, .ldc 0) :: (2, .goto 121) :: []
def s182_106 : List Ins := (2, .lload 21) :: (0, .ldc2_w 0) :: (0, .lcmp) :: (2, .ifCond .ne 119) :: (2, .iload 16) :: (0, .ineg) :: (2, .goto 121) :: []
def s182_119 : List Ins := (2, .iload 16) :: (2, .jsr 121) :: []
def s182_121 : List Ins := (2, .ireturn) :: []
def s182_122 : List Ins := (2, .lload 10) :: (2, .lstore 8) :: (2, .lload 21) :: (2, .lstore 10) :: (2, .lload 14) :: (2, .lstore 12) :: (2, .lload 23) :: (2, .lstore 14) :: (2, .iload 16) :: (0, .ineg) :: (2, .istore 16) :: (2, .goto 17) :: []
def tx_182 : Tx := [(0, 85, s182_0), (17, 87296, s182_17), (57, 65536, s182_57), (59, 0, s182_59), (60, 742656, s182_60), (94, 10551296, s182_94), (106, 2162688, s182_106), (119, 65536, s182_119), (121, 0, s182_121), (122, 10568704, s182_122)]
-- 183: WellPumpsModel.tells(JJ)V
def s183_5 : List Ins := (2, .lstore 5) :: (2, .aload 0) :: (2, .lload 1) :: (2, .lload 5) :: (0, .ldiv) :: (1, .dstore 790) :: (2, .aload 0) :: (2, .lload 3) :: (2, .lload 5) :: (0, .ldiv) :: (1, .dstore 791) :: (2, .return_) :: []
def s183_0 : List Ins := (2, .lload 1) :: (2, .lload 3) :: (2, .invokevirtual 92674) :: s183_5
def tx_183 : Tx := [(0, 11, s183_0)]
-- 184: WellPumpsModel.numberWith(I)J
def s184_4 : List Ins := (0, .ldc 1) :: (0, .iadd) :: (2, .istore 2) :: (0, .ldc 0) :: (2, .istore 3) :: (2, .jsr 9) :: []
def s184_0 : List Ins := (2, .aload 0) :: (2, .invokevirtual 68817) :: s184_4
def s184_9 : List Ins := (2, .iload 3) :: (0, .ldc 1) :: (2, .iload 2) :: (0, .ishl) :: (2, .if_icmp .ge 37) :: (2, .aload 0) :: (1, .checkcast 793) :: (2, .iload 3) :: (2, .iload 3) :: (2, .ifCond .ne 29) :: (0, .ldc2_w 1) :: (2, .goto 30) :: []
def s184_29 : List Ins := (0, .ldc2_w 0) :: (2, .jsr 30) :: []
def s184_30 : List Ins := (1, .lastore) :: (2, .iinc 3 1) :: (2, .goto 9) :: []
def s184_37 : List Ins := (0, .ldc 0) :: (2, .istore 3) :: (2, .jsr 39) :: []
def s184_50 : List Ins := (2, .istore 4) :: (2, .aload 0) :: (1, .checkcast 793) :: (2, .iload 3) :: (1, .laload) :: (0, .ldc2_w 0) :: (0, .lcmp) :: (2, .ifCond .ne 66) :: (2, .goto 182) :: []
def s184_39 : List Ins := (2, .iload 3) :: (0, .ldc 1) :: (2, .iload 2) :: (0, .ishl) :: (2, .if_icmp .ge 188) :: (2, .iload 3) :: (2, .invokevirtual 115201) :: s184_50
def s184_66 : List Ins := (0, .ldc 0) :: (2, .istore 5) :: (2, .jsr 69) :: []
def s184_69 : List Ins := (2, .iload 5) :: (2, .iload 2) :: (2, .if_icmp .ge 182) :: (2, .iload 3) :: (2, .iload 5) :: (0, .ishr) :: (0, .ldc 1) :: (0, .iand) :: (0, .ldc 1) :: (2, .if_icmp .ne 88) :: (2, .goto 176) :: []
def s184_115 : List Ins := (0, .i2l) :: (0, .lmul) :: (2, .goto 133) :: []
def s184_88 : List Ins := (2, .iload 5) :: (2, .iload 1) :: (2, .if_icmp .ne 120) :: (2, .aload 0) :: (1, .checkcast 795) :: (2, .iload 4) :: (1, .iaload) :: (0, .i2l) :: (2, .aload 0) :: (1, .checkcast 769) :: (0, .ldc 7) :: (1, .iaload) :: (0, .i2l) :: (0, .lmul) :: (2, .aload 0) :: (2, .invokevirtual 69841) :: s184_115
def s184_120 : List Ins := (2, .aload 0) :: (1, .checkcast 792) :: (0, .ldc 8) :: (2, .iload 4) :: (0, .imul) :: (2, .iload 5) :: (0, .iadd) :: (1, .laload) :: (2, .jsr 133) :: []
def s184_154 : List Ins := (0, .ldc 2) :: (0, .irem) :: (2, .ifCond .ne 164) :: (2, .lload 6) :: (2, .goto 167) :: []
def s184_133 : List Ins := (2, .lstore 6) :: (2, .aload 0) :: (1, .checkcast 793) :: (2, .iload 3) :: (0, .ldc 1) :: (2, .iload 5) :: (0, .ishl) :: (0, .ior) :: (0, .dup2) :: (1, .laload) :: (2, .iload 3) :: (2, .iload 5) :: (0, .ishr) :: (2, .invokevirtual 115201) :: s184_154
def s184_164 : List Ins := (2, .lload 6) :: (0, .lneg) :: (2, .jsr 167) :: []
def s184_167 : List Ins := (2, .aload 0) :: (1, .checkcast 793) :: (2, .iload 3) :: (1, .laload) :: (0, .lmul) :: (0, .ladd) :: (1, .lastore) :: (2, .jsr 176) :: []
def s184_176 : List Ins := (2, .iinc 5 1) :: (2, .goto 69) :: []
def s184_182 : List Ins := (2, .iinc 3 1) :: (2, .goto 39) :: []
def s184_188 : List Ins := (2, .aload 0) :: (1, .checkcast 793) :: (0, .ldc 1) :: (2, .iload 2) :: (0, .ishl) :: (0, .ldc 1) :: (0, .isub) :: (1, .laload) :: (2, .lreturn) :: []
def tx_184 : Tx := [(0, 3, s184_0), (9, 15, s184_9), (29, 15, s184_29), (30, 15, s184_30), (37, 7, s184_37), (39, 15, s184_39), (66, 31, s184_66), (69, 63, s184_69), (88, 63, s184_88), (120, 63, s184_120), (133, 63, s184_133), (164, 127, s184_164), (167, 63, s184_167), (176, 63, s184_176), (182, 15, s184_182), (188, 5, s184_188)]
-- 185: WellPumpsModel.squares()V
def s185_0 : List Ins := (0, .ldc 0) :: (2, .istore 1) :: (2, .jsr 2) :: []
def s185_7 : List Ins := (2, .if_icmp .gt 121) :: (0, .ldc 0) :: (2, .istore 2) :: (2, .jsr 12) :: []
def s185_2 : List Ins := (2, .iload 1) :: (2, .aload 0) :: (2, .invokevirtual 68817) :: s185_7
def s185_47 : List Ins := (0, .i2l) :: (0, .lmul) :: (2, .goto 53) :: []
def s185_17 : List Ins := (2, .if_icmp .gt 60) :: (2, .aload 0) :: (1, .checkcast 792) :: (0, .ldc 8) :: (2, .iload 1) :: (0, .imul) :: (2, .iload 2) :: (0, .iadd) :: (2, .iload 1) :: (2, .iload 2) :: (2, .if_icmp .ne 52) :: (2, .aload 0) :: (1, .checkcast 769) :: (0, .ldc 7) :: (1, .iaload) :: (0, .i2l) :: (2, .aload 0) :: (2, .invokevirtual 69841) :: s185_47
def s185_12 : List Ins := (2, .iload 2) :: (2, .aload 0) :: (2, .invokevirtual 68817) :: s185_17
def s185_52 : List Ins := (0, .ldc2_w 0) :: (2, .jsr 53) :: []
def s185_53 : List Ins := (1, .lastore) :: (2, .iinc 2 1) :: (2, .goto 12) :: []
def s185_60 : List Ins := (0, .ldc 0) :: (2, .istore 2) :: (2, .jsr 62) :: []
def s185_86 : List Ins := (0, .iadd) :: (0, .dup2) :: (1, .laload) :: (2, .aload 0) :: (1, .checkcast 769) :: (0, .ldc 6) :: (1, .iaload) :: (0, .i2l) :: (2, .aload 0) :: (1, .checkcast 769) :: (0, .ldc 2) :: (2, .iload 2) :: (0, .iadd) :: (1, .iaload) :: (0, .i2l) :: (0, .lmul) :: (0, .lsub) :: (1, .lastore) :: (2, .iinc 2 1) :: (2, .goto 62) :: []
def s185_62 : List Ins := (2, .iload 2) :: (0, .ldc 4) :: (2, .if_icmp .ge 115) :: (2, .aload 0) :: (1, .checkcast 792) :: (0, .ldc 8) :: (2, .iload 1) :: (0, .imul) :: (2, .aload 0) :: (2, .aload 0) :: (1, .checkcast 794) :: (2, .iload 1) :: (1, .iaload) :: (2, .iload 2) :: (2, .invokevirtual 90835) :: s185_86
def s185_115 : List Ins := (2, .iinc 1 1) :: (2, .goto 2) :: []
def s185_121 : List Ins := (2, .return_) :: []
def tx_185 : Tx := [(0, 1, s185_0), (2, 3, s185_2), (12, 7, s185_12), (52, 7, s185_52), (53, 7, s185_53), (60, 3, s185_60), (62, 7, s185_62), (115, 3, s185_115), (121, 0, s185_121)]
-- 186: WellPumpsModel.solves()V
def s186_10 : List Ins := (1, .dstore 797) :: (0, .ldc 0) :: (2, .istore 1) :: (2, .jsr 15) :: []
def s186_4 : List Ins := (2, .aload 0) :: (2, .aload 0) :: (0, .ldc_w 1) :: (2, .invokevirtual 94418) :: s186_10
def s186_0 : List Ins := (2, .aload 0) :: (2, .invokevirtual 94929) :: s186_4
def s186_33 : List Ins := (1, .lastore) :: (2, .iinc 1 1) :: (2, .goto 15) :: []
def s186_20 : List Ins := (2, .if_icmp .gt 40) :: (2, .aload 0) :: (1, .checkcast 796) :: (2, .iload 1) :: (2, .aload 0) :: (2, .iload 1) :: (2, .invokevirtual 94418) :: s186_33
def s186_15 : List Ins := (2, .iload 1) :: (2, .aload 0) :: (2, .invokevirtual 68817) :: s186_20
def s186_40 : List Ins := (2, .return_) :: []
def tx_186 : Tx := [(0, 1, s186_0), (15, 3, s186_15), (40, 0, s186_40)]
-- 187: WellPumpsModel.awaited([JII)J
def s187_0 : List Ins := (0, .ldc2_w 0) :: (2, .lstore 4) :: (0, .ldc 0) :: (2, .istore 6) :: (2, .jsr 6) :: []
def s187_23 : List Ins := (0, .iadd) :: (1, .saload) :: (2, .aload 0) :: (1, .checkcast 769) :: (0, .ldc 2) :: (2, .iload 6) :: (0, .iadd) :: (1, .iaload) :: (0, .i2l) :: (0, .lmul) :: (0, .ladd) :: (2, .lstore 4) :: (2, .iinc 6 1) :: (2, .goto 6) :: []
def s187_6 : List Ins := (2, .iload 6) :: (0, .ldc 4) :: (2, .if_icmp .ge 45) :: (2, .lload 4) :: (2, .aload 1) :: (2, .iload 2) :: (2, .aload 0) :: (2, .iload 3) :: (2, .iload 6) :: (2, .invokevirtual 90835) :: s187_23
def s187_45 : List Ins := (2, .lload 4) :: (2, .aload 0) :: (1, .checkcast 769) :: (0, .ldc 6) :: (1, .iaload) :: (0, .i2l) :: (0, .lmul) :: (2, .lreturn) :: []
def tx_187 : Tx := [(0, 15, s187_0), (6, 95, s187_6), (45, 17, s187_45)]
-- 188: WellPumpsModel.at(III)I
def s188_0 : List Ins := (0, .ldc 8) :: (0, .ldc 3) :: (2, .iload 0) :: (0, .imul) :: (2, .iload 1) :: (0, .iadd) :: (0, .imul) :: (2, .iload 2) :: (0, .iadd) :: (2, .ireturn) :: []
def tx_188 : Tx := [(0, 7, s188_0)]
-- 189: WellPumpsModel.worthsByDraws()V
def s189_0 : List Ins := (0, .ldc 0) :: (2, .istore 1) :: (2, .jsr 2) :: []
def s189_2 : List Ins := (2, .iload 1) :: (0, .ldc 2) :: (2, .if_icmp .ge 129) :: (0, .ldc 0) :: (2, .istore 2) :: (2, .jsr 9) :: []
def s189_14 : List Ins := (2, .if_icmp .ge 123) :: (0, .ldc 0) :: (2, .istore 3) :: (2, .jsr 19) :: []
def s189_9 : List Ins := (2, .iload 2) :: (2, .aload 0) :: (2, .invokevirtual 69329) :: s189_14
def s189_24 : List Ins := (2, .if_icmp .gt 70) :: (2, .aload 0) :: (2, .iload 3) :: (2, .iload 1) :: (0, .ldc 1) :: (2, .if_icmp .ne 38) :: (0, .ldc 1) :: (2, .goto 39) :: []
def s189_19 : List Ins := (2, .iload 3) :: (2, .aload 0) :: (2, .invokevirtual 68817) :: s189_24
def s189_38 : List Ins := (0, .ldc 0) :: (2, .jsr 39) :: []
def s189_42 : List Ins := (2, .aload 0) :: (1, .checkcast 794) :: (2, .iload 3) :: (2, .aload 0) :: (1, .getfield 787) :: (1, .iastore) :: (2, .aload 0) :: (1, .checkcast 795) :: (2, .iload 3) :: (2, .aload 0) :: (1, .checkcast 786) :: (2, .iload 2) :: (1, .iaload) :: (1, .iastore) :: (2, .iinc 3 1) :: (2, .goto 19) :: []
def s189_39 : List Ins := (2, .invokevirtual 90323) :: s189_42
def s189_74 : List Ins := (2, .aload 0) :: (1, .checkcast 799) :: (2, .iload 1) :: (2, .aload 0) :: (1, .dload 797) :: (1, .lastore) :: (0, .ldc 0) :: (2, .istore 3) :: (2, .jsr 86) :: []
def s189_70 : List Ins := (2, .aload 0) :: (2, .invokevirtual 95441) :: s189_74
def s189_104 : List Ins := (2, .aload 0) :: (1, .checkcast 796) :: (2, .iload 3) :: (1, .laload) :: (1, .lastore) :: (2, .iinc 3 1) :: (2, .goto 86) :: []
def s189_91 : List Ins := (2, .if_icmp .gt 117) :: (2, .aload 0) :: (1, .checkcast 798) :: (2, .iload 1) :: (2, .iload 2) :: (2, .iload 3) :: (2, .invokevirtual 96259) :: s189_104
def s189_86 : List Ins := (2, .iload 3) :: (2, .aload 0) :: (2, .invokevirtual 68817) :: s189_91
def s189_117 : List Ins := (2, .iinc 2 1) :: (2, .goto 9) :: []
def s189_123 : List Ins := (2, .iinc 1 1) :: (2, .goto 2) :: []
def s189_129 : List Ins := (2, .return_) :: []
def tx_189 : Tx := [(0, 1, s189_0), (2, 3, s189_2), (9, 7, s189_9), (19, 15, s189_19), (38, 15, s189_38), (39, 15, s189_39), (70, 7, s189_70), (86, 15, s189_86), (117, 7, s189_117), (123, 3, s189_123), (129, 0, s189_129)]
-- 190: WellPumpsModel.worth(IIZZ)J
def s190_19 : List Ins := (2, .ifCond .eq 26) :: (2, .jsr 22) :: []
def s190_11 : List Ins := (2, .ifCond .ne 22) :: (2, .aload 0) :: (2, .iload 2) :: (2, .invokevirtual 70354) :: s190_19
def s190_0 : List Ins := (2, .aload 0) :: (0, .ldc 0) :: (1, .putfield 768) :: (2, .aload 0) :: (2, .aload 0) :: (2, .iload 1) :: (2, .invokevirtual 70866) :: s190_11
def s190_22 : List Ins := (0, .ldc 1) :: (2, .goto 27) :: []
def s190_26 : List Ins := (0, .ldc 0) :: (2, .jsr 27) :: []
def s190_31 : List Ins := (2, .ifCond .eq 36) :: (0, .ldc2_w 0) :: (2, .lreturn) :: []
def s190_27 : List Ins := (0, .ldc 1) :: (2, .invokevirtual 66771) :: s190_31
def s190_40 : List Ins := (2, .iload 3) :: (2, .ifCond .eq 48) :: (0, .ldc 1) :: (2, .goto 49) :: []
def s190_36 : List Ins := (2, .aload 0) :: (2, .invokevirtual 96977) :: s190_40
def s190_48 : List Ins := (0, .ldc 0) :: (2, .jsr 49) :: []
def s190_78 : List Ins := (2, .iload 4) :: (2, .ifCond .eq 90) :: (2, .aload 0) :: (1, .dload 791) :: (2, .goto 94) :: []
def s190_63 : List Ins := (1, .laload) :: (0, .ldc2_w 4) :: (2, .aload 0) :: (1, .checkcast 799) :: (2, .iload 5) :: (1, .laload) :: (0, .lmul) :: (2, .invokevirtual 93907) :: s190_78
def s190_49 : List Ins := (2, .istore 5) :: (2, .aload 0) :: (2, .aload 0) :: (1, .checkcast 798) :: (2, .iload 5) :: (2, .iload 1) :: (2, .iload 2) :: (2, .invokevirtual 96259) :: s190_63
def s190_90 : List Ins := (2, .aload 0) :: (1, .dload 790) :: (2, .jsr 94) :: []
def s190_94 : List Ins := (2, .lreturn) :: []
def tx_190 : Tx := [(0, 31, s190_0), (22, 31, s190_22), (26, 31, s190_26), (27, 31, s190_27), (36, 31, s190_36), (48, 23, s190_48), (49, 23, s190_49), (90, 1, s190_90), (94, 0, s190_94)]
-- 191: WellPumpsModel.gainsBy(III)Z
def s191_0 : List Ins := (2, .aload 0) :: (2, .iload 1) :: (2, .iload 2) :: (2, .iload 3) :: (0, .ldc 1) :: (2, .if_icmp .ne 12) :: (0, .ldc 1) :: (2, .goto 13) :: []
def s191_12 : List Ins := (0, .ldc 0) :: (2, .jsr 13) :: []
def s191_25 : List Ins := (2, .istore 5) :: (0, .ldc 0) :: (2, .istore 6) :: (2, .jsr 30) :: []
def s191_16 : List Ins := (2, .istore 4) :: (2, .aload 0) :: (2, .iload 1) :: (2, .iload 2) :: (0, .ldc 0) :: (2, .invokevirtual 87764) :: s191_25
def s191_13 : List Ins := (2, .invokevirtual 87764) :: s191_16
def s191_30 : List Ins := (2, .iload 6) :: (0, .ldc 4) :: (2, .if_icmp .ge 184) :: (2, .iload 6) :: (2, .iload 4) :: (2, .if_icmp .ne 46) :: (2, .goto 178) :: []
def s191_46 : List Ins := (2, .aload 0) :: (2, .iload 2) :: (2, .iload 3) :: (0, .ldc 1) :: (2, .if_icmp .ne 57) :: (0, .ldc 1) :: (2, .goto 58) :: []
def s191_57 : List Ins := (0, .ldc 0) :: (2, .jsr 58) :: []
def s191_78 : List Ins := (2, .iload 3) :: (0, .ldc 1) :: (2, .if_icmp .eq 90) :: (2, .iload 6) :: (2, .iload 5) :: (2, .if_icmp .le 94) :: (2, .jsr 90) :: []
def s191_75 : List Ins := (2, .invokevirtual 88787) :: s191_78
def s191_61 : List Ins := (2, .aload 0) :: (1, .checkcast 784) :: (2, .iload 1) :: (2, .iload 6) :: (1, .iastore) :: (2, .aload 0) :: (2, .iload 2) :: (2, .aload 0) :: (2, .invokevirtual 89297) :: s191_75
def s191_58 : List Ins := (2, .invokevirtual 89811) :: s191_61
def s191_90 : List Ins := (0, .ldc 1) :: (2, .goto 95) :: []
def s191_94 : List Ins := (0, .ldc 0) :: (2, .jsr 95) :: []
def s191_173 : List Ins := (2, .ifCond .le 178) :: (0, .ldc 1) :: (2, .freturn) :: []
def s191_163 : List Ins := (1, .laload) :: (2, .aload 0) :: (1, .checkcast 799) :: (2, .iload 3) :: (1, .laload) :: (2, .invokevirtual 93188) :: s191_173
def s191_150 : List Ins := (0, .ladd) :: (2, .lload 8) :: (2, .aload 0) :: (1, .checkcast 798) :: (2, .iload 3) :: (2, .iload 1) :: (2, .iload 2) :: (2, .invokevirtual 96259) :: s191_163
def s191_143 : List Ins := (2, .aload 0) :: (1, .getfield 787) :: (2, .invokevirtual 95956) :: s191_150
def s191_109 : List Ins := (0, .i2l) :: (0, .lmul) :: (2, .aload 0) :: (1, .checkcast 799) :: (2, .iload 7) :: (1, .laload) :: (0, .lmul) :: (2, .lstore 8) :: (2, .aload 0) :: (1, .checkcast 786) :: (2, .iload 1) :: (1, .iaload) :: (0, .i2l) :: (2, .lload 8) :: (0, .lmul) :: (2, .aload 0) :: (2, .aload 0) :: (1, .checkcast 798) :: (2, .iload 7) :: (2, .iload 1) :: (0, .ldc 0) :: (2, .invokevirtual 96259) :: s191_143
def s191_95 : List Ins := (2, .istore 7) :: (2, .aload 0) :: (1, .checkcast 769) :: (0, .ldc 7) :: (1, .iaload) :: (0, .i2l) :: (2, .aload 0) :: (2, .invokevirtual 69841) :: s191_109
def s191_178 : List Ins := (2, .iinc 6 1) :: (2, .goto 30) :: []
def s191_184 : List Ins := (0, .ldc 0) :: (2, .freturn) :: []
def tx_191 : Tx := [(0, 15, s191_0), (12, 15, s191_12), (13, 15, s191_13), (30, 127, s191_30), (46, 127, s191_46), (57, 127, s191_57), (58, 127, s191_58), (90, 127, s191_90), (94, 127, s191_94), (95, 127, s191_95), (178, 127, s191_178), (184, 0, s191_184)]
-- 192: WellPumpsModel.judged()I
def s192_4 : List Ins := (0, .ldc 0) :: (2, .istore 1) :: (2, .jsr 6) :: []
def s192_0 : List Ins := (2, .aload 0) :: (2, .invokevirtual 96977) :: s192_4
def s192_6 : List Ins := (2, .iload 1) :: (0, .ldc 2) :: (2, .if_icmp .ge 71) :: (0, .ldc 0) :: (2, .istore 2) :: (2, .jsr 13) :: []
def s192_18 : List Ins := (2, .if_icmp .gt 65) :: (0, .ldc 0) :: (2, .istore 3) :: (2, .jsr 23) :: []
def s192_13 : List Ins := (2, .iload 2) :: (2, .aload 0) :: (2, .invokevirtual 68817) :: s192_18
def s192_38 : List Ins := (2, .ifCond .eq 53) :: (0, .ldc 100) :: (2, .iload 1) :: (0, .imul) :: (0, .ldc 10) :: (2, .iload 2) :: (0, .imul) :: (0, .iadd) :: (2, .iload 3) :: (0, .iadd) :: (2, .ireturn) :: []
def s192_28 : List Ins := (2, .if_icmp .ge 59) :: (2, .aload 0) :: (2, .iload 3) :: (2, .iload 2) :: (2, .iload 1) :: (2, .invokevirtual 98004) :: s192_38
def s192_23 : List Ins := (2, .iload 3) :: (2, .aload 0) :: (2, .invokevirtual 69329) :: s192_28
def s192_53 : List Ins := (2, .iinc 3 1) :: (2, .goto 23) :: []
def s192_59 : List Ins := (2, .iinc 2 1) :: (2, .goto 13) :: []
def s192_65 : List Ins := (2, .iinc 1 1) :: (2, .goto 6) :: []
def s192_71 : List Ins := (0, .ldc_w 1) :: (2, .ireturn) :: []
def tx_192 : Tx := [(0, 1, s192_0), (6, 3, s192_6), (13, 7, s192_13), (23, 15, s192_23), (53, 15, s192_53), (59, 7, s192_59), (65, 3, s192_65), (71, 0, s192_71)]
-- 193: WellPumpsModel.judge()I
def s193_9 : List Ins := (2, .ireturn) :: []
def s193_0 : List Ins := (2, .aload 0) :: (0, .ldc 0) :: (1, .putfield 768) :: (2, .aload 0) :: (2, .invokevirtual 98513) :: s193_9
def tx_193 : Tx := [(0, 1, s193_0)]
-- 194: WellPumpsModel.wantsBy(III)V
def s194_6 : List Ins := (2, .iload 1) :: (2, .ifCond .lt 17) :: (2, .aload 0) :: (1, .checkcast 784) :: (2, .iload 1) :: (2, .iload 3) :: (1, .iastore) :: (2, .jsr 17) :: []
def s194_0 : List Ins := (2, .aload 0) :: (2, .iload 2) :: (0, .ldc 0) :: (2, .invokevirtual 89811) :: s194_6
def s194_21 : List Ins := (0, .ldc 1) :: (0, .isub) :: (2, .istore 4) :: (2, .iload 3) :: (2, .istore 5) :: (2, .jsr 28) :: []
def s194_17 : List Ins := (2, .aload 0) :: (2, .invokevirtual 69329) :: s194_21
def s194_28 : List Ins := (2, .iload 4) :: (2, .ifCond .lt 60) :: (2, .iload 1) :: (2, .ifCond .ge 60) :: (2, .aload 0) :: (1, .checkcast 784) :: (2, .iload 4) :: (2, .iload 5) :: (0, .ldc 4) :: (0, .irem) :: (1, .iastore) :: (2, .iload 5) :: (0, .ldc 4) :: (0, .idiv) :: (2, .istore 5) :: (2, .iinc 4 (-1)) :: (2, .goto 28) :: []
def s194_60 : List Ins := (2, .return_) :: []
def tx_194 : Tx := [(0, 15, s194_0), (17, 11, s194_17), (28, 51, s194_28), (60, 0, s194_60)]
-- 195: WellPumpsModel.codes(I)I
def s195_0 : List Ins := (0, .ldc 4) :: (2, .istore 2) :: (0, .ldc 1) :: (2, .istore 3) :: (2, .jsr 4) :: []
def s195_9 : List Ins := (2, .if_icmp .ge 26) :: (2, .iload 1) :: (2, .ifCond .ge 26) :: (2, .iload 2) :: (0, .ldc 4) :: (0, .imul) :: (2, .istore 2) :: (2, .iinc 3 1) :: (2, .goto 4) :: []
def s195_4 : List Ins := (2, .iload 3) :: (2, .aload 0) :: (2, .invokevirtual 69329) :: s195_9
def s195_30 : List Ins := (2, .ifCond .ne 37) :: (0, .ldc 1) :: (2, .goto 38) :: []
def s195_26 : List Ins := (2, .aload 0) :: (2, .invokevirtual 69329) :: s195_30
def s195_37 : List Ins := (2, .iload 2) :: (2, .jsr 38) :: []
def s195_38 : List Ins := (2, .ireturn) :: []
def tx_195 : Tx := [(0, 3, s195_0), (4, 15, s195_4), (26, 5, s195_26), (37, 4, s195_37), (38, 0, s195_38)]
-- 196: WellPumpsModel.yearBy(III)V
def s196_7 : List Ins := (2, .aload 0) :: (2, .iload 2) :: (2, .iload 1) :: (2, .ifCond .ge 17) :: (0, .ldc 0) :: (2, .goto 21) :: []
def s196_0 : List Ins := (2, .aload 0) :: (2, .iload 1) :: (2, .iload 2) :: (2, .iload 3) :: (2, .invokevirtual 99540) :: s196_7
def s196_24 : List Ins := (2, .return_) :: []
def s196_21 : List Ins := (2, .invokevirtual 88787) :: s196_24
def s196_17 : List Ins := (2, .aload 0) :: (2, .invokevirtual 89297) :: s196_21
def tx_196 : Tx := [(0, 15, s196_0), (17, 1, s196_17), (21, 0, s196_21)]
-- 197: WellPumpsModel.gainBy(I)I
def s197_0 : List Ins := (2, .iload 1) :: (2, .ifCond .ge 11) :: (2, .aload 0) :: (1, .getfield 789) :: (2, .goto 17) :: []
def s197_11 : List Ins := (2, .aload 0) :: (1, .checkcast 786) :: (2, .iload 1) :: (1, .iaload) :: (2, .jsr 17) :: []
def s197_17 : List Ins := (2, .ireturn) :: []
def tx_197 : Tx := [(0, 3, s197_0), (11, 3, s197_11), (17, 0, s197_17)]
-- 198: WellPumpsModel.betters(I)V
def s198_0 : List Ins := (0, .ldc 0) :: (2, .istore 2) :: (2, .jsr 2) :: []
def s198_7 : List Ins := (2, .if_icmp .gt 23) :: (2, .aload 0) :: (1, .checkcast 800) :: (2, .iload 2) :: (0, .ldc 0) :: (1, .iastore) :: (2, .iinc 2 1) :: (2, .goto 2) :: []
def s198_2 : List Ins := (2, .iload 2) :: (2, .aload 0) :: (2, .invokevirtual 68817) :: s198_7
def s198_23 : List Ins := (0, .ldc 1) :: (2, .istore 2) :: (2, .jsr 25) :: []
def s198_25 : List Ins := (2, .iload 2) :: (2, .ifCond .eq 227) :: (0, .ldc 0) :: (2, .istore 3) :: (2, .jsr 31) :: []
def s198_71 : List Ins := (1, .iastore) :: (2, .iinc 3 1) :: (2, .goto 31) :: []
def s198_51 : List Ins := (2, .aload 0) :: (1, .checkcast 794) :: (2, .iload 3) :: (2, .aload 0) :: (1, .getfield 787) :: (1, .iastore) :: (2, .aload 0) :: (1, .checkcast 795) :: (2, .iload 3) :: (2, .aload 0) :: (2, .iload 1) :: (2, .invokevirtual 101074) :: s198_71
def s198_36 : List Ins := (2, .if_icmp .gt 78) :: (2, .aload 0) :: (2, .iload 1) :: (2, .iload 3) :: (2, .aload 0) :: (1, .checkcast 800) :: (2, .iload 3) :: (1, .iaload) :: (2, .invokevirtual 100564) :: s198_51
def s198_31 : List Ins := (2, .iload 3) :: (2, .aload 0) :: (2, .invokevirtual 68817) :: s198_36
def s198_96 : List Ins := (0, .i2l) :: (0, .lmul) :: (2, .aload 0) :: (1, .dload 797) :: (0, .lmul) :: (2, .lstore 3) :: (0, .ldc 0) :: (2, .istore 5) :: (2, .jsr 107) :: []
def s198_82 : List Ins := (0, .ldc 0) :: (2, .istore 2) :: (2, .aload 0) :: (1, .checkcast 769) :: (0, .ldc 7) :: (1, .iaload) :: (0, .i2l) :: (2, .aload 0) :: (2, .invokevirtual 69841) :: s198_96
def s198_78 : List Ins := (2, .aload 0) :: (2, .invokevirtual 95441) :: s198_82
def s198_136 : List Ins := (0, .i2l) :: (0, .lmul) :: (2, .lstore 6) :: (0, .ldc 0) :: (2, .istore 8) :: (2, .jsr 143) :: []
def s198_113 : List Ins := (2, .if_icmp .gt 224) :: (2, .aload 0) :: (1, .checkcast 796) :: (2, .iload 5) :: (1, .laload) :: (2, .aload 0) :: (1, .checkcast 769) :: (0, .ldc 7) :: (1, .iaload) :: (0, .i2l) :: (0, .lmul) :: (2, .aload 0) :: (2, .invokevirtual 69841) :: s198_136
def s198_107 : List Ins := (2, .iload 5) :: (2, .aload 0) :: (2, .invokevirtual 68817) :: s198_113
def s198_183 : List Ins := (0, .ladd) :: (2, .lstore 9) :: (2, .lload 9) :: (2, .lload 6) :: (0, .lcmp) :: (2, .ifCond .gt 197) :: (2, .goto 212) :: []
def s198_167 : List Ins := (0, .i2l) :: (2, .lload 3) :: (0, .lmul) :: (2, .aload 0) :: (2, .aload 0) :: (1, .checkcast 796) :: (0, .ldc 0) :: (2, .aload 0) :: (1, .getfield 787) :: (2, .invokevirtual 95956) :: s198_183
def s198_162 : List Ins := (2, .aload 0) :: (2, .iload 1) :: (2, .invokevirtual 101074) :: s198_167
def s198_150 : List Ins := (2, .if_icmp .ge 218) :: (2, .aload 0) :: (2, .iload 1) :: (2, .iload 5) :: (2, .iload 8) :: (2, .invokevirtual 100564) :: s198_162
def s198_143 : List Ins := (2, .iload 8) :: (2, .aload 0) :: (2, .iload 1) :: (2, .invokevirtual 100050) :: s198_150
def s198_197 : List Ins := (2, .lload 9) :: (2, .lstore 6) :: (2, .aload 0) :: (1, .checkcast 800) :: (2, .iload 5) :: (2, .iload 8) :: (1, .iastore) :: (0, .ldc 1) :: (2, .istore 2) :: (2, .jsr 212) :: []
def s198_212 : List Ins := (2, .iinc 8 1) :: (2, .goto 143) :: []
def s198_218 : List Ins := (2, .iinc 5 1) :: (2, .goto 107) :: []
def s198_224 : List Ins := (2, .goto 25) :: []
def s198_239 : List Ins := (0, .i2l) :: (0, .lmul) :: (2, .aload 0) :: (1, .dload 797) :: (0, .lmul) :: (2, .lstore 3) :: (0, .ldc 0) :: (2, .istore 5) :: (2, .jsr 250) :: []
def s198_227 : List Ins := (2, .aload 0) :: (1, .checkcast 769) :: (0, .ldc 7) :: (1, .iaload) :: (0, .i2l) :: (2, .aload 0) :: (2, .invokevirtual 69841) :: s198_239
def s198_264 : List Ins := (0, .ldc 1) :: (0, .isub) :: (2, .istore 6) :: (2, .jsr 268) :: []
def s198_256 : List Ins := (2, .if_icmp .gt 351) :: (2, .aload 0) :: (2, .iload 1) :: (2, .invokevirtual 100050) :: s198_264
def s198_250 : List Ins := (2, .iload 5) :: (2, .aload 0) :: (2, .invokevirtual 68817) :: s198_256
def s198_324 : List Ins := (0, .i2l) :: (0, .lmul) :: (0, .lcmp) :: (2, .ifCond .ne 339) :: (2, .aload 0) :: (1, .checkcast 800) :: (2, .iload 5) :: (2, .iload 6) :: (1, .iastore) :: (2, .jsr 339) :: []
def s198_303 : List Ins := (0, .ladd) :: (2, .aload 0) :: (1, .checkcast 796) :: (2, .iload 5) :: (1, .laload) :: (2, .aload 0) :: (1, .checkcast 769) :: (0, .ldc 7) :: (1, .iaload) :: (0, .i2l) :: (0, .lmul) :: (2, .aload 0) :: (2, .invokevirtual 69841) :: s198_324
def s198_287 : List Ins := (0, .i2l) :: (2, .lload 3) :: (0, .lmul) :: (2, .aload 0) :: (2, .aload 0) :: (1, .checkcast 796) :: (0, .ldc 0) :: (2, .aload 0) :: (1, .getfield 787) :: (2, .invokevirtual 95956) :: s198_303
def s198_282 : List Ins := (2, .aload 0) :: (2, .iload 1) :: (2, .invokevirtual 101074) :: s198_287
def s198_268 : List Ins := (2, .iload 6) :: (2, .ifCond .lt 345) :: (2, .aload 0) :: (2, .iload 1) :: (2, .iload 5) :: (2, .iload 6) :: (2, .invokevirtual 100564) :: s198_282
def s198_339 : List Ins := (2, .iinc 6 (-1)) :: (2, .goto 268) :: []
def s198_345 : List Ins := (2, .iinc 5 1) :: (2, .goto 250) :: []
def s198_351 : List Ins := (2, .return_) :: []
def tx_198 : Tx := [(0, 3, s198_0), (2, 7, s198_2), (23, 3, s198_23), (25, 7, s198_25), (31, 11, s198_31), (78, 3, s198_78), (107, 47, s198_107), (143, 367, s198_143), (197, 811, s198_197), (212, 367, s198_212), (218, 47, s198_218), (224, 7, s198_224), (227, 3, s198_227), (250, 43, s198_250), (268, 107, s198_268), (339, 107, s198_339), (345, 43, s198_345), (351, 0, s198_351)]
-- 199: WellPumpsModel.answer(II)I
def s199_19 : List Ins := (2, .ifCond .eq 26) :: (2, .jsr 22) :: []
def s199_11 : List Ins := (2, .ifCond .ne 22) :: (2, .aload 0) :: (2, .iload 2) :: (2, .invokevirtual 70354) :: s199_19
def s199_0 : List Ins := (2, .aload 0) :: (0, .ldc 0) :: (1, .putfield 768) :: (2, .aload 0) :: (2, .aload 0) :: (2, .iload 1) :: (2, .invokevirtual 70866) :: s199_11
def s199_22 : List Ins := (0, .ldc 1) :: (2, .goto 27) :: []
def s199_26 : List Ins := (0, .ldc 0) :: (2, .jsr 27) :: []
def s199_31 : List Ins := (2, .ifCond .eq 36) :: (0, .ldc 0) :: (2, .ireturn) :: []
def s199_27 : List Ins := (0, .ldc 1) :: (2, .invokevirtual 66771) :: s199_31
def s199_41 : List Ins := (2, .aload 0) :: (1, .checkcast 800) :: (2, .iload 2) :: (1, .iaload) :: (2, .ireturn) :: []
def s199_36 : List Ins := (2, .aload 0) :: (2, .iload 1) :: (2, .invokevirtual 101586) :: s199_41
def tx_199 : Tx := [(0, 7, s199_0), (22, 7, s199_22), (26, 7, s199_26), (27, 7, s199_27), (36, 7, s199_36)]
-- 200: WellPumpsModel.owner(II)I
def s200_19 : List Ins := (2, .ifCond .eq 26) :: (2, .jsr 22) :: []
def s200_11 : List Ins := (2, .ifCond .ne 22) :: (2, .aload 0) :: (2, .iload 2) :: (2, .invokevirtual 70354) :: s200_19
def s200_0 : List Ins := (2, .aload 0) :: (0, .ldc 0) :: (1, .putfield 768) :: (2, .aload 0) :: (2, .aload 0) :: (2, .iload 1) :: (2, .invokevirtual 70866) :: s200_11
def s200_22 : List Ins := (0, .ldc 1) :: (2, .goto 27) :: []
def s200_26 : List Ins := (0, .ldc 0) :: (2, .jsr 27) :: []
def s200_31 : List Ins := (2, .ifCond .eq 36) :: (0, .ldc 0) :: (2, .ireturn) :: []
def s200_27 : List Ins := (0, .ldc 1) :: (2, .invokevirtual 66771) :: s200_31
def s200_53 : List Ins := (2, .aload 0) :: (1, .checkcast 784) :: (2, .iload 1) :: (1, .iaload) :: (2, .ireturn) :: []
def s200_41 : List Ins := (2, .aload 0) :: (0, .ldc_w 1) :: (2, .iload 2) :: (2, .aload 0) :: (1, .checkcast 800) :: (2, .iload 2) :: (1, .iaload) :: (2, .invokevirtual 99540) :: s200_53
def s200_36 : List Ins := (2, .aload 0) :: (0, .ldc_w 1) :: (2, .invokevirtual 101586) :: s200_41
def tx_200 : Tx := [(0, 7, s200_0), (22, 7, s200_22), (26, 7, s200_26), (27, 7, s200_27), (36, 7, s200_36)]
-- 201: WellPumpsModel.owned(IZ)J
def s201_15 : List Ins := (2, .ifCond .eq 20) :: (0, .ldc2_w 0) :: (2, .lreturn) :: []
def s201_11 : List Ins := (0, .ldc 1) :: (2, .invokevirtual 66771) :: s201_15
def s201_0 : List Ins := (2, .aload 0) :: (0, .ldc 0) :: (1, .putfield 768) :: (2, .aload 0) :: (2, .aload 0) :: (2, .iload 1) :: (2, .invokevirtual 70354) :: s201_11
def s201_43 : List Ins := (2, .iload 2) :: (2, .ifCond .eq 54) :: (2, .aload 0) :: (1, .dload 791) :: (2, .goto 58) :: []
def s201_25 : List Ins := (2, .aload 0) :: (2, .aload 0) :: (1, .checkcast 796) :: (2, .iload 1) :: (1, .laload) :: (0, .ldc2_w 4) :: (2, .aload 0) :: (1, .dload 797) :: (0, .lmul) :: (2, .invokevirtual 93907) :: s201_43
def s201_20 : List Ins := (2, .aload 0) :: (0, .ldc_w 1) :: (2, .invokevirtual 101586) :: s201_25
def s201_54 : List Ins := (2, .aload 0) :: (1, .dload 790) :: (2, .jsr 58) :: []
def s201_58 : List Ins := (2, .lreturn) :: []
def tx_201 : Tx := [(0, 7, s201_0), (20, 7, s201_20), (54, 1, s201_54), (58, 0, s201_58)]
-- 202: WellPumpsModel.lost(I)J
def s202_15 : List Ins := (2, .ifCond .eq 20) :: (0, .ldc2_w 0) :: (2, .lreturn) :: []
def s202_11 : List Ins := (0, .ldc 1) :: (2, .invokevirtual 66771) :: s202_15
def s202_0 : List Ins := (2, .aload 0) :: (0, .ldc 0) :: (1, .putfield 768) :: (2, .aload 0) :: (2, .aload 0) :: (2, .iload 1) :: (2, .invokevirtual 70354) :: s202_11
def s202_43 : List Ins := (2, .aload 0) :: (1, .dload 790) :: (2, .lstore 2) :: (2, .aload 0) :: (1, .dload 791) :: (2, .lstore 4) :: (0, .ldc 0) :: (2, .istore 6) :: (2, .jsr 57) :: []
def s202_25 : List Ins := (2, .aload 0) :: (2, .aload 0) :: (1, .checkcast 796) :: (2, .iload 1) :: (1, .laload) :: (0, .ldc2_w 4) :: (2, .aload 0) :: (1, .dload 797) :: (0, .lmul) :: (2, .invokevirtual 93907) :: s202_43
def s202_20 : List Ins := (2, .aload 0) :: (0, .ldc_w 1) :: (2, .invokevirtual 101586) :: s202_25
def s202_73 : List Ins := (2, .aload 0) :: (1, .checkcast 794) :: (2, .iload 6) :: (2, .aload 0) :: (1, .getfield 787) :: (1, .iastore) :: (2, .aload 0) :: (1, .checkcast 795) :: (2, .iload 6) :: (2, .aload 0) :: (1, .getfield 789) :: (1, .iastore) :: (2, .iinc 6 1) :: (2, .goto 57) :: []
def s202_63 : List Ins := (2, .if_icmp .gt 101) :: (2, .aload 0) :: (2, .iload 6) :: (0, .ldc 0) :: (2, .invokevirtual 90323) :: s202_73
def s202_57 : List Ins := (2, .iload 6) :: (2, .aload 0) :: (2, .invokevirtual 68817) :: s202_63
def s202_177 : List Ins := (2, .ifCond .ge 184) :: (0, .ldc2_w 1) :: (2, .goto 185) :: []
def s202_142 : List Ins := (2, .lstore 8) :: (2, .lload 6) :: (2, .lload 8) :: (0, .lsub) :: (2, .lload 2) :: (2, .lload 6) :: (2, .lload 4) :: (0, .lmul) :: (0, .lsub) :: (2, .lload 4) :: (2, .aload 0) :: (1, .dload 790) :: (2, .lload 8) :: (2, .aload 0) :: (1, .dload 791) :: (0, .lmul) :: (0, .lsub) :: (2, .aload 0) :: (1, .dload 791) :: (2, .invokevirtual 93188) :: s202_177
def s202_129 : List Ins := (2, .lstore 6) :: (2, .aload 0) :: (1, .dload 790) :: (2, .aload 0) :: (1, .dload 791) :: (2, .invokevirtual 115714) :: s202_142
def s202_123 : List Ins := (2, .lload 2) :: (2, .lload 4) :: (2, .invokevirtual 115714) :: s202_129
def s202_105 : List Ins := (2, .aload 0) :: (2, .aload 0) :: (1, .checkcast 796) :: (2, .iload 1) :: (1, .laload) :: (0, .ldc2_w 4) :: (2, .aload 0) :: (1, .dload 797) :: (0, .lmul) :: (2, .invokevirtual 93907) :: s202_123
def s202_101 : List Ins := (2, .aload 0) :: (2, .invokevirtual 95441) :: s202_105
def s202_184 : List Ins := (0, .ldc2_w 0) :: (2, .jsr 185) :: []
def s202_185 : List Ins := (0, .lsub) :: (2, .lreturn) :: []
def tx_202 : Tx := [(0, 3, s202_0), (20, 3, s202_20), (57, 87, s202_57), (101, 23, s202_101), (184, 0, s202_184), (185, 0, s202_185)]
-- 203: WellPumpsModel.noYears(I)Z
def s203_7 : List Ins := (2, .ifCond .ne 14) :: (0, .ldc 1) :: (2, .goto 15) :: []
def s203_0 : List Ins := (2, .iload 0) :: (0, .ldc 1) :: (0, .ldc 8) :: (2, .invokevirtual 67075) :: s203_7
def s203_14 : List Ins := (0, .ldc 0) :: (2, .jsr 15) :: []
def s203_15 : List Ins := (2, .freturn) :: []
def tx_203 : Tx := [(0, 1, s203_0), (14, 0, s203_14), (15, 0, s203_15)]
-- 204: WellPumpsModel.near(III)I
def s204_19 : List Ins := (2, .ifCond .eq 26) :: (2, .jsr 22) :: []
def s204_11 : List Ins := (2, .ifCond .ne 22) :: (2, .aload 0) :: (2, .iload 2) :: (2, .invokevirtual 70354) :: s204_19
def s204_0 : List Ins := (2, .aload 0) :: (0, .ldc 0) :: (1, .putfield 768) :: (2, .aload 0) :: (2, .aload 0) :: (2, .iload 1) :: (2, .invokevirtual 70866) :: s204_11
def s204_22 : List Ins := (0, .ldc 1) :: (2, .goto 27) :: []
def s204_26 : List Ins := (0, .ldc 0) :: (2, .jsr 27) :: []
def s204_43 : List Ins := (2, .ifCond .eq 48) :: (2, .jsr 46) :: []
def s204_39 : List Ins := (0, .ldc 2) :: (2, .invokevirtual 66771) :: s204_43
def s204_31 : List Ins := (2, .ifCond .ne 46) :: (2, .aload 0) :: (2, .iload 3) :: (2, .invokevirtual 103937) :: s204_39
def s204_27 : List Ins := (0, .ldc 1) :: (2, .invokevirtual 66771) :: s204_31
def s204_46 : List Ins := (0, .ldc 0) :: (2, .ireturn) :: []
def s204_48 : List Ins := (0, .ldc 0) :: (2, .istore 4) :: (2, .jsr 51) :: []
def s204_51 : List Ins := (2, .iload 4) :: (0, .ldc 8) :: (2, .if_icmp .ge 72) :: (2, .aload 0) :: (1, .checkcast 801) :: (2, .iload 4) :: (0, .ldc2_w 0) :: (1, .lastore) :: (2, .iinc 4 1) :: (2, .goto 51) :: []
def s204_72 : List Ins := (0, .ldc2_w 1) :: (2, .lstore 4) :: (0, .ldc 0) :: (2, .istore 6) :: (0, .ldc 0) :: (2, .istore 7) :: (2, .jsr 81) :: []
def s204_81 : List Ins := (2, .iload 7) :: (2, .iload 3) :: (2, .if_icmp .ge 268) :: (0, .ldc 0) :: (2, .istore 8) :: (2, .jsr 90) :: []
def s204_96 : List Ins := (2, .if_icmp .gt 211) :: (0, .ldc 0) :: (2, .istore 9) :: (2, .jsr 102) :: []
def s204_90 : List Ins := (2, .iload 8) :: (2, .aload 0) :: (2, .invokevirtual 68817) :: s204_96
def s204_156 : List Ins := (0, .ladd) :: (2, .lstore 10) :: (2, .iload 9) :: (2, .ifCond .le 180) :: (2, .lload 10) :: (2, .aload 0) :: (1, .checkcast 802) :: (2, .iload 8) :: (1, .laload) :: (0, .lcmp) :: (2, .ifCond .gt 180) :: (2, .goto 199) :: []
def s204_133 : List Ins := (2, .aload 0) :: (1, .checkcast 786) :: (2, .iload 1) :: (1, .iaload) :: (0, .i2l) :: (2, .lload 4) :: (0, .lmul) :: (2, .aload 0) :: (2, .aload 0) :: (1, .checkcast 801) :: (0, .ldc 0) :: (2, .aload 0) :: (1, .getfield 787) :: (2, .invokevirtual 95956) :: s204_156
def s204_130 : List Ins := (2, .invokevirtual 88787) :: s204_133
def s204_115 : List Ins := (2, .aload 0) :: (1, .checkcast 784) :: (2, .iload 1) :: (2, .iload 9) :: (1, .iastore) :: (2, .aload 0) :: (2, .iload 8) :: (2, .aload 0) :: (2, .invokevirtual 89297) :: s204_130
def s204_102 : List Ins := (2, .iload 9) :: (0, .ldc 4) :: (2, .if_icmp .ge 205) :: (2, .aload 0) :: (2, .iload 8) :: (0, .ldc 0) :: (2, .invokevirtual 89811) :: s204_115
def s204_180 : List Ins := (2, .aload 0) :: (1, .checkcast 802) :: (2, .iload 8) :: (2, .lload 10) :: (1, .lastore) :: (2, .iload 8) :: (2, .iload 2) :: (2, .if_icmp .ne 199) :: (2, .iload 9) :: (2, .istore 6) :: (2, .jsr 199) :: []
def s204_199 : List Ins := (2, .iinc 9 1) :: (2, .goto 102) :: []
def s204_205 : List Ins := (2, .iinc 8 1) :: (2, .goto 90) :: []
def s204_211 : List Ins := (0, .ldc 0) :: (2, .istore 8) :: (2, .jsr 214) :: []
def s204_220 : List Ins := (2, .if_icmp .gt 243) :: (2, .aload 0) :: (1, .checkcast 801) :: (2, .iload 8) :: (2, .aload 0) :: (1, .checkcast 802) :: (2, .iload 8) :: (1, .laload) :: (1, .lastore) :: (2, .iinc 8 1) :: (2, .goto 214) :: []
def s204_214 : List Ins := (2, .iload 8) :: (2, .aload 0) :: (2, .invokevirtual 68817) :: s204_220
def s204_257 : List Ins := (0, .i2l) :: (0, .lmul) :: (0, .lmul) :: (2, .lstore 4) :: (2, .iinc 7 1) :: (2, .goto 81) :: []
def s204_243 : List Ins := (2, .lload 4) :: (2, .aload 0) :: (1, .checkcast 769) :: (0, .ldc 7) :: (1, .iaload) :: (0, .i2l) :: (2, .aload 0) :: (2, .invokevirtual 69841) :: s204_257
def s204_268 : List Ins := (2, .iload 6) :: (2, .ireturn) :: []
def tx_204 : Tx := [(0, 15, s204_0), (22, 15, s204_22), (26, 15, s204_26), (27, 15, s204_27), (46, 0, s204_46), (48, 15, s204_48), (51, 31, s204_51), (72, 15, s204_72), (81, 223, s204_81), (90, 479, s204_90), (102, 991, s204_102), (180, 2015, s204_180), (199, 991, s204_199), (205, 479, s204_205), (211, 223, s204_211), (214, 479, s204_214), (243, 223, s204_243), (268, 64, s204_268)]
-- 205: WellPumpsModel.isRest(IIIJ)Z
def s205_0 : List Ins := (0, .ldc 0) :: (2, .istore 6) :: (2, .jsr 3) :: []
def s205_62 : List Ins := (0, .ladd) :: (2, .lstore 8) :: (0, .ldc 0) :: (2, .istore 10) :: (2, .jsr 68) :: []
def s205_34 : List Ins := (2, .aload 0) :: (1, .checkcast 786) :: (2, .iload 6) :: (1, .iaload) :: (0, .i2l) :: (2, .lload 4) :: (0, .lmul) :: (2, .aload 0) :: (2, .aload 0) :: (1, .checkcast 801) :: (0, .ldc 8) :: (2, .iload 6) :: (0, .imul) :: (2, .aload 0) :: (1, .getfield 787) :: (2, .invokevirtual 95956) :: s205_62
def s205_19 : List Ins := (2, .aload 0) :: (1, .checkcast 784) :: (2, .iload 6) :: (1, .iaload) :: (2, .istore 7) :: (2, .aload 0) :: (2, .iload 1) :: (2, .iload 3) :: (2, .invokevirtual 88787) :: s205_34
def s205_9 : List Ins := (2, .if_icmp .ge 155) :: (2, .aload 0) :: (0, .ldc_w 1) :: (2, .iload 1) :: (2, .iload 2) :: (2, .invokevirtual 99540) :: s205_19
def s205_3 : List Ins := (2, .iload 6) :: (2, .aload 0) :: (2, .invokevirtual 69329) :: s205_9
def s205_68 : List Ins := (2, .iload 10) :: (0, .ldc 4) :: (2, .if_icmp .ge 149) :: (2, .iload 10) :: (2, .iload 7) :: (2, .if_icmp .ne 84) :: (2, .goto 143) :: []
def s205_134 : List Ins := (0, .ladd) :: (2, .lload 8) :: (0, .lcmp) :: (2, .ifCond .le 143) :: (0, .ldc 0) :: (2, .freturn) :: []
def s205_106 : List Ins := (2, .aload 0) :: (1, .checkcast 786) :: (2, .iload 6) :: (1, .iaload) :: (0, .i2l) :: (2, .lload 4) :: (0, .lmul) :: (2, .aload 0) :: (2, .aload 0) :: (1, .checkcast 801) :: (0, .ldc 8) :: (2, .iload 6) :: (0, .imul) :: (2, .aload 0) :: (1, .getfield 787) :: (2, .invokevirtual 95956) :: s205_134
def s205_91 : List Ins := (2, .aload 0) :: (1, .checkcast 784) :: (2, .iload 6) :: (2, .iload 10) :: (1, .iastore) :: (2, .aload 0) :: (2, .iload 1) :: (2, .iload 3) :: (2, .invokevirtual 88787) :: s205_106
def s205_84 : List Ins := (2, .aload 0) :: (0, .ldc_w 1) :: (2, .iload 1) :: (2, .iload 2) :: (2, .invokevirtual 99540) :: s205_91
def s205_143 : List Ins := (2, .iinc 10 1) :: (2, .goto 68) :: []
def s205_149 : List Ins := (2, .iinc 6 1) :: (2, .goto 3) :: []
def s205_155 : List Ins := (0, .ldc 1) :: (2, .freturn) :: []
def tx_205 : Tx := [(0, 31, s205_0), (3, 95, s205_3), (68, 1503, s205_68), (84, 1503, s205_84), (143, 1503, s205_143), (149, 95, s205_149), (155, 0, s205_155)]
-- 206: WellPumpsModel.plainOf(I)I
def s206_0 : List Ins := (0, .ldc 0) :: (2, .istore 2) :: (0, .ldc 0) :: (2, .istore 3) :: (2, .jsr 4) :: []
def s206_9 : List Ins := (2, .if_icmp .ge 82) :: (0, .ldc 17) :: (0, .ldc 5) :: (2, .iload 3) :: (0, .imul) :: (0, .iadd) :: (2, .istore 4) :: (2, .iload 2) :: (2, .aload 0) :: (1, .checkcast 785) :: (2, .iload 3) :: (1, .iaload) :: (2, .ifCond .ne 34) :: (0, .ldc 0) :: (2, .goto 50) :: []
def s206_4 : List Ins := (2, .iload 3) :: (2, .aload 0) :: (2, .invokevirtual 69329) :: s206_9
def s206_34 : List Ins := (2, .aload 0) :: (1, .checkcast 769) :: (2, .iload 4) :: (2, .aload 0) :: (1, .checkcast 785) :: (2, .iload 3) :: (1, .iaload) :: (0, .iadd) :: (0, .ldc 1) :: (0, .isub) :: (1, .iaload) :: (2, .jsr 50) :: []
def s206_70 : List Ins := (2, .iload 1) :: (0, .isub) :: (0, .imul) :: (0, .isub) :: (0, .iadd) :: (2, .istore 2) :: (2, .iinc 3 1) :: (2, .goto 4) :: []
def s206_50 : List Ins := (2, .aload 0) :: (1, .checkcast 785) :: (2, .iload 3) :: (1, .iaload) :: (2, .aload 0) :: (1, .checkcast 769) :: (2, .iload 4) :: (0, .ldc 3) :: (0, .iadd) :: (1, .iaload) :: (0, .imul) :: (2, .aload 0) :: (2, .invokevirtual 68817) :: s206_70
def s206_82 : List Ins := (2, .iload 2) :: (2, .ireturn) :: []
def tx_206 : Tx := [(0, 3, s206_0), (4, 15, s206_4), (34, 27, s206_34), (50, 27, s206_50), (82, 4, s206_82)]
-- 207: WellPumpsModel.rests(II)V
def s207_0 : List Ins := (0, .ldc 0) :: (2, .istore 3) :: (2, .jsr 2) :: []
def s207_2 : List Ins := (2, .iload 3) :: (0, .ldc 24) :: (2, .if_icmp .ge 21) :: (2, .aload 0) :: (1, .checkcast 801) :: (2, .iload 3) :: (0, .ldc2_w 0) :: (1, .lastore) :: (2, .iinc 3 1) :: (2, .goto 2) :: []
def s207_21 : List Ins := (0, .ldc 0) :: (2, .istore 3) :: (2, .jsr 23) :: []
def s207_23 : List Ins := (2, .iload 3) :: (0, .ldc 8) :: (2, .if_icmp .ge 42) :: (2, .aload 0) :: (1, .checkcast 803) :: (2, .iload 3) :: (0, .ldc2_w 0) :: (1, .lastore) :: (2, .iinc 3 1) :: (2, .goto 23) :: []
def s207_42 : List Ins := (2, .aload 0) :: (0, .ldc2_w 1) :: (1, .dstore 806) :: (0, .ldc 0) :: (2, .istore 3) :: (2, .jsr 49) :: []
def s207_75 : List Ins := (0, .i2l) :: (0, .lmul) :: (0, .lmul) :: (1, .dstore 806) :: (2, .jsr 81) :: []
def s207_49 : List Ins := (2, .iload 3) :: (2, .iload 1) :: (2, .if_icmp .ge 343) :: (2, .iload 3) :: (2, .ifCond .le 81) :: (2, .aload 0) :: (0, .dup) :: (1, .dload 806) :: (2, .aload 0) :: (1, .checkcast 769) :: (0, .ldc 7) :: (1, .iaload) :: (0, .i2l) :: (2, .aload 0) :: (2, .invokevirtual 69841) :: s207_75
def s207_81 : List Ins := (0, .ldc 0) :: (2, .istore 4) :: (2, .jsr 84) :: []
def s207_90 : List Ins := (2, .if_icmp .gt 277) :: (2, .aload 0) :: (1, .checkcast 805) :: (2, .iload 4) :: (0, .ldc 0) :: (1, .iastore) :: (0, .ldc 0) :: (2, .istore 5) :: (2, .jsr 104) :: []
def s207_84 : List Ins := (2, .iload 4) :: (2, .aload 0) :: (2, .invokevirtual 68817) :: s207_90
def s207_127 : List Ins := (2, .ifCond .ne 136) :: (2, .iinc 5 1) :: (2, .goto 104) :: []
def s207_111 : List Ins := (2, .if_icmp .ge 136) :: (2, .aload 0) :: (2, .iload 4) :: (2, .iload 5) :: (2, .iload 2) :: (2, .aload 0) :: (1, .dload 806) :: (2, .invokevirtual 105173) :: s207_127
def s207_104 : List Ins := (2, .iload 5) :: (2, .aload 0) :: (0, .ldc_w 1) :: (2, .invokevirtual 100050) :: s207_111
def s207_143 : List Ins := (2, .if_icmp .ge 155) :: (2, .aload 0) :: (1, .checkcast 805) :: (2, .iload 4) :: (2, .iload 5) :: (1, .iastore) :: (2, .jsr 155) :: []
def s207_136 : List Ins := (2, .iload 5) :: (2, .aload 0) :: (0, .ldc_w 1) :: (2, .invokevirtual 100050) :: s207_143
def s207_176 : List Ins := (0, .ldc 0) :: (2, .istore 6) :: (2, .jsr 179) :: []
def s207_169 : List Ins := (2, .aload 0) :: (2, .iload 4) :: (2, .iload 2) :: (2, .invokevirtual 88787) :: s207_176
def s207_155 : List Ins := (2, .aload 0) :: (0, .ldc_w 1) :: (2, .iload 4) :: (2, .aload 0) :: (1, .checkcast 805) :: (2, .iload 4) :: (1, .iaload) :: (2, .invokevirtual 99540) :: s207_169
def s207_230 : List Ins := (0, .ladd) :: (1, .lastore) :: (2, .iinc 6 1) :: (2, .goto 179) :: []
def s207_185 : List Ins := (2, .if_icmp .ge 238) :: (2, .aload 0) :: (1, .checkcast 802) :: (0, .ldc 8) :: (2, .iload 6) :: (0, .imul) :: (2, .iload 4) :: (0, .iadd) :: (2, .aload 0) :: (1, .checkcast 786) :: (2, .iload 6) :: (1, .iaload) :: (0, .i2l) :: (2, .aload 0) :: (1, .dload 806) :: (0, .lmul) :: (2, .aload 0) :: (2, .aload 0) :: (1, .checkcast 801) :: (0, .ldc 8) :: (2, .iload 6) :: (0, .imul) :: (2, .aload 0) :: (1, .getfield 787) :: (2, .invokevirtual 95956) :: s207_230
def s207_179 : List Ins := (2, .iload 6) :: (2, .aload 0) :: (2, .invokevirtual 69329) :: s207_185
def s207_269 : List Ins := (0, .ladd) :: (1, .lastore) :: (2, .iinc 4 1) :: (2, .goto 84) :: []
def s207_250 : List Ins := (0, .i2l) :: (2, .aload 0) :: (1, .dload 806) :: (0, .lmul) :: (2, .aload 0) :: (2, .aload 0) :: (1, .checkcast 803) :: (0, .ldc 0) :: (2, .aload 0) :: (1, .getfield 787) :: (2, .invokevirtual 95956) :: s207_269
def s207_238 : List Ins := (2, .aload 0) :: (1, .checkcast 804) :: (2, .iload 4) :: (2, .aload 0) :: (2, .iload 4) :: (2, .invokevirtual 105682) :: s207_250
def s207_277 : List Ins := (0, .ldc 0) :: (2, .istore 4) :: (2, .jsr 280) :: []
def s207_280 : List Ins := (2, .iload 4) :: (0, .ldc 24) :: (2, .if_icmp .ge 307) :: (2, .aload 0) :: (1, .checkcast 801) :: (2, .iload 4) :: (2, .aload 0) :: (1, .checkcast 802) :: (2, .iload 4) :: (1, .laload) :: (1, .lastore) :: (2, .iinc 4 1) :: (2, .goto 280) :: []
def s207_307 : List Ins := (0, .ldc 0) :: (2, .istore 4) :: (2, .jsr 310) :: []
def s207_310 : List Ins := (2, .iload 4) :: (0, .ldc 8) :: (2, .if_icmp .ge 337) :: (2, .aload 0) :: (1, .checkcast 803) :: (2, .iload 4) :: (2, .aload 0) :: (1, .checkcast 804) :: (2, .iload 4) :: (1, .laload) :: (1, .lastore) :: (2, .iinc 4 1) :: (2, .goto 310) :: []
def s207_337 : List Ins := (2, .iinc 3 1) :: (2, .goto 49) :: []
def s207_343 : List Ins := (2, .return_) :: []
def tx_207 : Tx := [(0, 7, s207_0), (2, 15, s207_2), (21, 7, s207_21), (23, 15, s207_23), (42, 7, s207_42), (49, 15, s207_49), (81, 15, s207_81), (84, 31, s207_84), (104, 63, s207_104), (136, 63, s207_136), (155, 31, s207_155), (179, 95, s207_179), (238, 31, s207_238), (277, 15, s207_277), (280, 31, s207_280), (307, 15, s207_307), (310, 31, s207_310), (337, 15, s207_337), (343, 0, s207_343)]
-- 208: WellPumpsModel.rest(III)I
def s208_19 : List Ins := (2, .ifCond .eq 26) :: (2, .jsr 22) :: []
def s208_11 : List Ins := (2, .ifCond .ne 22) :: (2, .aload 0) :: (2, .iload 2) :: (2, .invokevirtual 70354) :: s208_19
def s208_0 : List Ins := (2, .aload 0) :: (0, .ldc 0) :: (1, .putfield 768) :: (2, .aload 0) :: (2, .aload 0) :: (2, .iload 1) :: (2, .invokevirtual 70866) :: s208_11
def s208_22 : List Ins := (0, .ldc 1) :: (2, .goto 27) :: []
def s208_26 : List Ins := (0, .ldc 0) :: (2, .jsr 27) :: []
def s208_43 : List Ins := (2, .ifCond .eq 48) :: (2, .jsr 46) :: []
def s208_39 : List Ins := (0, .ldc 2) :: (2, .invokevirtual 66771) :: s208_43
def s208_31 : List Ins := (2, .ifCond .ne 46) :: (2, .aload 0) :: (2, .iload 3) :: (2, .invokevirtual 103937) :: s208_39
def s208_27 : List Ins := (0, .ldc 1) :: (2, .invokevirtual 66771) :: s208_31
def s208_46 : List Ins := (0, .ldc 0) :: (2, .ireturn) :: []
def s208_69 : List Ins := (2, .aload 0) :: (1, .checkcast 784) :: (2, .iload 1) :: (1, .iaload) :: (2, .ireturn) :: []
def s208_57 : List Ins := (2, .aload 0) :: (0, .ldc_w 1) :: (2, .iload 2) :: (2, .aload 0) :: (1, .checkcast 805) :: (2, .iload 2) :: (1, .iaload) :: (2, .invokevirtual 99540) :: s208_69
def s208_54 : List Ins := (2, .invokevirtual 106195) :: s208_57
def s208_48 : List Ins := (2, .aload 0) :: (2, .iload 3) :: (2, .aload 0) :: (2, .invokevirtual 89297) :: s208_54
def tx_208 : Tx := [(0, 15, s208_0), (22, 15, s208_22), (26, 15, s208_26), (27, 15, s208_27), (46, 0, s208_46), (48, 15, s208_48)]
-- 209: WellPumpsModel.restWorth(IIIZ)J
def s209_19 : List Ins := (2, .ifCond .eq 26) :: (2, .jsr 22) :: []
def s209_11 : List Ins := (2, .ifCond .ne 22) :: (2, .aload 0) :: (2, .iload 2) :: (2, .invokevirtual 70354) :: s209_19
def s209_0 : List Ins := (2, .aload 0) :: (0, .ldc 0) :: (1, .putfield 768) :: (2, .aload 0) :: (2, .aload 0) :: (2, .iload 1) :: (2, .invokevirtual 70866) :: s209_11
def s209_22 : List Ins := (0, .ldc 1) :: (2, .goto 27) :: []
def s209_26 : List Ins := (0, .ldc 0) :: (2, .jsr 27) :: []
def s209_43 : List Ins := (2, .ifCond .eq 48) :: (2, .jsr 46) :: []
def s209_39 : List Ins := (0, .ldc 2) :: (2, .invokevirtual 66771) :: s209_43
def s209_31 : List Ins := (2, .ifCond .ne 46) :: (2, .aload 0) :: (2, .iload 3) :: (2, .invokevirtual 103937) :: s209_39
def s209_27 : List Ins := (0, .ldc 1) :: (2, .invokevirtual 66771) :: s209_31
def s209_46 : List Ins := (0, .ldc2_w 0) :: (2, .lreturn) :: []
def s209_80 : List Ins := (2, .iload 4) :: (2, .ifCond .eq 92) :: (2, .aload 0) :: (1, .dload 791) :: (2, .goto 96) :: []
def s209_57 : List Ins := (2, .aload 0) :: (2, .aload 0) :: (1, .checkcast 801) :: (0, .ldc 8) :: (2, .iload 1) :: (0, .imul) :: (2, .iload 2) :: (0, .iadd) :: (1, .laload) :: (0, .ldc2_w 4) :: (2, .aload 0) :: (1, .dload 806) :: (0, .lmul) :: (2, .invokevirtual 93907) :: s209_80
def s209_54 : List Ins := (2, .invokevirtual 106195) :: s209_57
def s209_48 : List Ins := (2, .aload 0) :: (2, .iload 3) :: (2, .aload 0) :: (2, .invokevirtual 89297) :: s209_54
def s209_92 : List Ins := (2, .aload 0) :: (1, .dload 790) :: (2, .jsr 96) :: []
def s209_96 : List Ins := (2, .lreturn) :: []
def tx_209 : Tx := [(0, 31, s209_0), (22, 31, s209_22), (26, 31, s209_26), (27, 31, s209_27), (46, 0, s209_46), (48, 31, s209_48), (92, 1, s209_92), (96, 0, s209_96)]
-- 210: WellPumpsModel.nearest(II)I
def s210_27 : List Ins := (2, .ifCond .eq 32) :: (2, .jsr 30) :: []
def s210_23 : List Ins := (0, .ldc 2) :: (2, .invokevirtual 66771) :: s210_27
def s210_15 : List Ins := (2, .ifCond .ne 30) :: (2, .aload 0) :: (2, .iload 2) :: (2, .invokevirtual 103937) :: s210_23
def s210_11 : List Ins := (0, .ldc 1) :: (2, .invokevirtual 66771) :: s210_15
def s210_0 : List Ins := (2, .aload 0) :: (0, .ldc 0) :: (1, .putfield 768) :: (2, .aload 0) :: (2, .aload 0) :: (2, .iload 1) :: (2, .invokevirtual 70354) :: s210_11
def s210_30 : List Ins := (0, .ldc 0) :: (2, .ireturn) :: []
def s210_32 : List Ins := (0, .ldc_w 1) :: (2, .istore 3) :: (0, .ldc2_w 0) :: (2, .lstore 4) :: (0, .ldc 0) :: (2, .istore 6) :: (2, .jsr 40) :: []
def s210_59 : List Ins := (2, .iload 3) :: (2, .ifCond .lt 78) :: (2, .aload 0) :: (1, .checkcast 803) :: (2, .iload 1) :: (1, .laload) :: (2, .lload 4) :: (0, .lcmp) :: (2, .ifCond .gt 78) :: (2, .goto 89) :: []
def s210_40 : List Ins := (2, .iload 6) :: (2, .aload 0) :: (1, .checkcast 769) :: (0, .ldc 9) :: (1, .iaload) :: (2, .if_icmp .ge 95) :: (2, .aload 0) :: (2, .iload 2) :: (2, .iload 6) :: (2, .invokevirtual 106195) :: s210_59
def s210_78 : List Ins := (2, .iload 6) :: (2, .istore 3) :: (2, .aload 0) :: (1, .checkcast 803) :: (2, .iload 1) :: (1, .laload) :: (2, .lstore 4) :: (2, .jsr 89) :: []
def s210_89 : List Ins := (2, .iinc 6 1) :: (2, .goto 40) :: []
def s210_95 : List Ins := (2, .iload 3) :: (2, .ireturn) :: []
def tx_210 : Tx := [(0, 7, s210_0), (30, 0, s210_30), (32, 7, s210_32), (40, 95, s210_40), (78, 71, s210_78), (89, 95, s210_89), (95, 8, s210_95)]
-- 211: WellPumpsModel.pacts(I)I
def s211_15 : List Ins := (2, .ifCond .eq 20) :: (0, .ldc 0) :: (2, .ireturn) :: []
def s211_11 : List Ins := (0, .ldc 1) :: (2, .invokevirtual 66771) :: s211_15
def s211_0 : List Ins := (2, .aload 0) :: (0, .ldc 0) :: (1, .putfield 768) :: (2, .aload 0) :: (2, .aload 0) :: (2, .iload 1) :: (2, .invokevirtual 71378) :: s211_11
def s211_20 : List Ins := (0, .ldc 0) :: (2, .istore 2) :: (2, .aload 0) :: (2, .iload 1) :: (1, .putfield 783) :: (0, .ldc 0) :: (2, .istore 3) :: (2, .jsr 29) :: []
def s211_44 : List Ins := (2, .ifCond .ge 53) :: (0, .ldc 1) :: (2, .iload 3) :: (0, .ishl) :: (2, .goto 54) :: []
def s211_29 : List Ins := (2, .iload 3) :: (0, .ldc 4) :: (2, .if_icmp .ge 62) :: (2, .aload 0) :: (2, .iload 3) :: (1, .putfield 782) :: (2, .iload 2) :: (2, .aload 0) :: (2, .invokevirtual 98513) :: s211_44
def s211_53 : List Ins := (0, .ldc 0) :: (2, .jsr 54) :: []
def s211_54 : List Ins := (0, .ior) :: (2, .istore 2) :: (2, .iinc 3 1) :: (2, .goto 29) :: []
def s211_62 : List Ins := (2, .aload 0) :: (0, .ldc_w 1) :: (1, .putfield 782) :: (2, .iload 2) :: (2, .ireturn) :: []
def tx_211 : Tx := [(0, 3, s211_0), (20, 3, s211_20), (29, 13, s211_29), (53, 9, s211_53), (54, 9, s211_54), (62, 5, s211_62)]
-- 212: WellPumpsModel.weak()I
def s212_0 : List Ins := (2, .aload 0) :: (0, .ldc 0) :: (1, .putfield 768) :: (2, .aload 0) :: (1, .checkcast 769) :: (0, .ldc 6) :: (1, .iaload) :: (2, .istore 1) :: (2, .aload 0) :: (1, .checkcast 769) :: (0, .ldc 7) :: (1, .iaload) :: (2, .istore 2) :: (0, .ldc_w 1) :: (2, .istore 3) :: (0, .ldc 1) :: (2, .istore 4) :: (0, .ldc 1) :: (2, .istore 5) :: (2, .jsr 29) :: []
def s212_29 : List Ins := (2, .iload 3) :: (2, .ifCond .ge 178) :: (2, .iload 4) :: (2, .ifCond .le 178) :: (0, .ldc 0) :: (2, .istore 6) :: (0, .ldc 1) :: (2, .istore 7) :: (0, .ldc 2) :: (2, .istore 8) :: (2, .jsr 47) :: []
def s212_47 : List Ins := (2, .iload 8) :: (0, .ldc 5) :: (2, .if_icmp .gt 112) :: (0, .ldc 1) :: (2, .istore 9) :: (2, .jsr 56) :: []
def s212_56 : List Ins := (2, .iload 9) :: (2, .iload 8) :: (2, .if_icmp .ge 106) :: (2, .iload 9) :: (2, .iload 5) :: (0, .imul) :: (2, .iload 4) :: (2, .iload 8) :: (0, .imul) :: (2, .if_icmp .ge 100) :: (2, .iload 9) :: (2, .iload 7) :: (0, .imul) :: (2, .iload 6) :: (2, .iload 8) :: (0, .imul) :: (2, .if_icmp .gt 92) :: (2, .goto 100) :: []
def s212_92 : List Ins := (2, .iload 9) :: (2, .istore 6) :: (2, .iload 8) :: (2, .istore 7) :: (2, .jsr 100) :: []
def s212_100 : List Ins := (2, .iinc 9 1) :: (2, .goto 56) :: []
def s212_106 : List Ins := (2, .iinc 8 1) :: (2, .goto 47) :: []
def s212_112 : List Ins := (2, .iload 6) :: (2, .istore 4) :: (2, .iload 7) :: (2, .istore 5) :: (2, .iload 4) :: (2, .ifCond .ne 128) :: (2, .goto 29) :: []
def s212_150 : List Ins := (2, .istore 8) :: (2, .iload 8) :: (2, .ifCond .lt 175) :: (0, .ldc 100) :: (2, .iload 4) :: (0, .imul) :: (0, .ldc 10) :: (2, .iload 5) :: (0, .imul) :: (0, .iadd) :: (2, .iload 8) :: (0, .ldc 10) :: (0, .irem) :: (0, .iadd) :: (2, .istore 3) :: (2, .jsr 175) :: []
def s212_128 : List Ins := (2, .aload 0) :: (1, .checkcast 769) :: (0, .ldc 6) :: (2, .iload 4) :: (1, .iastore) :: (2, .aload 0) :: (1, .checkcast 769) :: (0, .ldc 7) :: (2, .iload 5) :: (1, .iastore) :: (2, .aload 0) :: (2, .invokevirtual 98513) :: s212_150
def s212_175 : List Ins := (2, .goto 29) :: []
def s212_178 : List Ins := (2, .aload 0) :: (1, .checkcast 769) :: (0, .ldc 6) :: (2, .iload 1) :: (1, .iastore) :: (2, .aload 0) :: (1, .checkcast 769) :: (0, .ldc 7) :: (2, .iload 2) :: (1, .iastore) :: (2, .iload 3) :: (2, .ireturn) :: []
def tx_212 : Tx := [(0, 1, s212_0), (29, 63, s212_29), (47, 511, s212_47), (56, 1023, s212_56), (92, 831, s212_92), (100, 1023, s212_100), (106, 511, s212_106), (112, 207, s212_112), (128, 63, s212_128), (175, 63, s212_175), (178, 15, s212_178)]
-- 213: WellPumpsModel.dry(II)J
def s213_26 : List Ins := (2, .ifCond .ne 33) :: (0, .ldc 1) :: (2, .goto 34) :: []
def s213_15 : List Ins := (2, .ifCond .ne 41) :: (2, .aload 0) :: (2, .iload 2) :: (0, .ldc 0) :: (0, .ldc 20) :: (2, .invokevirtual 67075) :: s213_26
def s213_11 : List Ins := (0, .ldc 1) :: (2, .invokevirtual 66771) :: s213_15
def s213_0 : List Ins := (2, .aload 0) :: (0, .ldc 0) :: (1, .putfield 768) :: (2, .aload 0) :: (2, .aload 0) :: (2, .iload 1) :: (2, .invokevirtual 70354) :: s213_11
def s213_33 : List Ins := (0, .ldc 0) :: (2, .jsr 34) :: []
def s213_38 : List Ins := (2, .ifCond .eq 43) :: (2, .jsr 41) :: []
def s213_34 : List Ins := (0, .ldc 2) :: (2, .invokevirtual 66771) :: s213_38
def s213_41 : List Ins := (0, .ldc2_w 0) :: (2, .lreturn) :: []
def s213_43 : List Ins := (0, .ldc 0) :: (2, .istore 3) :: (2, .jsr 45) :: []
def s213_45 : List Ins := (2, .iload 3) :: (0, .ldc 8) :: (2, .if_icmp .ge 73) :: (2, .aload 0) :: (1, .checkcast 807) :: (2, .iload 3) :: (2, .iload 3) :: (2, .iload 1) :: (2, .if_icmp .ne 65) :: (0, .ldc2_w 1) :: (2, .goto 66) :: []
def s213_65 : List Ins := (0, .ldc2_w 0) :: (2, .jsr 66) :: []
def s213_66 : List Ins := (1, .lastore) :: (2, .iinc 3 1) :: (2, .goto 45) :: []
def s213_73 : List Ins := (0, .ldc2_w 0) :: (2, .lstore 3) :: (0, .ldc 0) :: (2, .istore 5) :: (2, .jsr 78) :: []
def s213_89 : List Ins := (0, .i2l) :: (0, .lmul) :: (2, .lstore 3) :: (0, .ldc 0) :: (2, .istore 6) :: (2, .jsr 95) :: []
def s213_78 : List Ins := (2, .iload 5) :: (2, .iload 2) :: (2, .if_icmp .ge 244) :: (2, .lload 3) :: (2, .aload 0) :: (2, .invokevirtual 69841) :: s213_89
def s213_95 : List Ins := (2, .iload 6) :: (0, .ldc 8) :: (2, .if_icmp .ge 116) :: (2, .aload 0) :: (1, .checkcast 808) :: (2, .iload 6) :: (0, .ldc2_w 0) :: (1, .lastore) :: (2, .iinc 6 1) :: (2, .goto 95) :: []
def s213_116 : List Ins := (0, .ldc 0) :: (2, .istore 6) :: (2, .jsr 119) :: []
def s213_135 : List Ins := (0, .ldc 0) :: (2, .istore 7) :: (2, .jsr 138) :: []
def s213_125 : List Ins := (2, .if_icmp .gt 192) :: (2, .aload 0) :: (2, .iload 6) :: (0, .ldc 0) :: (2, .invokevirtual 90323) :: s213_135
def s213_119 : List Ins := (2, .iload 6) :: (2, .aload 0) :: (2, .invokevirtual 68817) :: s213_125
def s213_158 : List Ins := (0, .dup2) :: (1, .laload) :: (2, .aload 0) :: (1, .checkcast 807) :: (2, .iload 6) :: (1, .laload) :: (2, .aload 0) :: (1, .checkcast 769) :: (0, .ldc 2) :: (2, .iload 7) :: (0, .iadd) :: (1, .iaload) :: (0, .i2l) :: (0, .lmul) :: (0, .ladd) :: (1, .lastore) :: (2, .iinc 7 1) :: (2, .goto 138) :: []
def s213_138 : List Ins := (2, .iload 7) :: (0, .ldc 4) :: (2, .if_icmp .ge 186) :: (2, .aload 0) :: (1, .checkcast 808) :: (2, .aload 0) :: (2, .aload 0) :: (1, .getfield 787) :: (2, .iload 7) :: (2, .invokevirtual 90835) :: s213_158
def s213_186 : List Ins := (2, .iinc 6 1) :: (2, .goto 119) :: []
def s213_192 : List Ins := (2, .lload 3) :: (2, .aload 0) :: (1, .checkcast 808) :: (0, .ldc 0) :: (1, .laload) :: (0, .ladd) :: (2, .lstore 3) :: (2, .aload 0) :: (1, .checkcast 808) :: (0, .ldc 0) :: (0, .ldc2_w 0) :: (1, .lastore) :: (0, .ldc 0) :: (2, .istore 6) :: (2, .jsr 211) :: []
def s213_211 : List Ins := (2, .iload 6) :: (0, .ldc 8) :: (2, .if_icmp .ge 238) :: (2, .aload 0) :: (1, .checkcast 807) :: (2, .iload 6) :: (2, .aload 0) :: (1, .checkcast 808) :: (2, .iload 6) :: (1, .laload) :: (1, .lastore) :: (2, .iinc 6 1) :: (2, .goto 211) :: []
def s213_238 : List Ins := (2, .iinc 5 1) :: (2, .goto 78) :: []
def s213_244 : List Ins := (2, .lload 3) :: (2, .lreturn) :: []
def tx_213 : Tx := [(0, 7, s213_0), (33, 7, s213_33), (34, 7, s213_34), (41, 0, s213_41), (43, 7, s213_43), (45, 15, s213_45), (65, 15, s213_65), (66, 15, s213_66), (73, 5, s213_73), (78, 45, s213_78), (95, 109, s213_95), (116, 45, s213_116), (119, 109, s213_119), (138, 237, s213_138), (186, 109, s213_186), (192, 45, s213_192), (211, 109, s213_211), (238, 45, s213_238), (244, 8, s213_244)]
-- 214: WellPumpsModel.partOfAll(III)J
def s214_0 : List Ins := (0, .ldc 0) :: (2, .istore 4) :: (2, .jsr 3) :: []
def s214_3 : List Ins := (2, .iload 4) :: (0, .ldc 8) :: (2, .if_icmp .ge 34) :: (2, .aload 0) :: (1, .checkcast 807) :: (2, .iload 4) :: (2, .iload 4) :: (2, .iload 2) :: (2, .if_icmp .ne 26) :: (0, .ldc2_w 1) :: (2, .goto 27) :: []
def s214_26 : List Ins := (0, .ldc2_w 0) :: (2, .jsr 27) :: []
def s214_27 : List Ins := (1, .lastore) :: (2, .iinc 4 1) :: (2, .goto 3) :: []
def s214_34 : List Ins := (0, .ldc2_w 0) :: (2, .lstore 4) :: (0, .ldc 0) :: (2, .istore 6) :: (2, .jsr 40) :: []
def s214_52 : List Ins := (0, .i2l) :: (0, .lmul) :: (2, .lstore 4) :: (0, .ldc 0) :: (2, .istore 7) :: (2, .jsr 59) :: []
def s214_40 : List Ins := (2, .iload 6) :: (2, .iload 3) :: (2, .if_icmp .ge 218) :: (2, .lload 4) :: (2, .aload 0) :: (2, .invokevirtual 69841) :: s214_52
def s214_59 : List Ins := (2, .iload 7) :: (0, .ldc 8) :: (2, .if_icmp .ge 80) :: (2, .aload 0) :: (1, .checkcast 808) :: (2, .iload 7) :: (0, .ldc2_w 0) :: (1, .lastore) :: (2, .iinc 7 1) :: (2, .goto 59) :: []
def s214_80 : List Ins := (0, .ldc 0) :: (2, .istore 7) :: (2, .jsr 83) :: []
def s214_120 : List Ins := (0, .i2l) :: (0, .lmul) :: (0, .ladd) :: (2, .lstore 4) :: (0, .ldc 0) :: (2, .istore 8) :: (2, .jsr 128) :: []
def s214_99 : List Ins := (2, .lload 4) :: (2, .aload 0) :: (1, .checkcast 807) :: (2, .iload 7) :: (1, .laload) :: (2, .aload 0) :: (1, .checkcast 785) :: (2, .iload 1) :: (1, .iaload) :: (0, .i2l) :: (0, .lmul) :: (2, .aload 0) :: (2, .invokevirtual 69841) :: s214_120
def s214_89 : List Ins := (2, .if_icmp .gt 182) :: (2, .aload 0) :: (2, .iload 7) :: (0, .ldc 0) :: (2, .invokevirtual 90323) :: s214_99
def s214_83 : List Ins := (2, .iload 7) :: (2, .aload 0) :: (2, .invokevirtual 68817) :: s214_89
def s214_148 : List Ins := (0, .dup2) :: (1, .laload) :: (2, .aload 0) :: (1, .checkcast 807) :: (2, .iload 7) :: (1, .laload) :: (2, .aload 0) :: (1, .checkcast 769) :: (0, .ldc 2) :: (2, .iload 8) :: (0, .iadd) :: (1, .iaload) :: (0, .i2l) :: (0, .lmul) :: (0, .ladd) :: (1, .lastore) :: (2, .iinc 8 1) :: (2, .goto 128) :: []
def s214_128 : List Ins := (2, .iload 8) :: (0, .ldc 4) :: (2, .if_icmp .ge 176) :: (2, .aload 0) :: (1, .checkcast 808) :: (2, .aload 0) :: (2, .aload 0) :: (1, .getfield 787) :: (2, .iload 8) :: (2, .invokevirtual 90835) :: s214_148
def s214_176 : List Ins := (2, .iinc 7 1) :: (2, .goto 83) :: []
def s214_182 : List Ins := (0, .ldc 0) :: (2, .istore 7) :: (2, .jsr 185) :: []
def s214_185 : List Ins := (2, .iload 7) :: (0, .ldc 8) :: (2, .if_icmp .ge 212) :: (2, .aload 0) :: (1, .checkcast 807) :: (2, .iload 7) :: (2, .aload 0) :: (1, .checkcast 808) :: (2, .iload 7) :: (1, .laload) :: (1, .lastore) :: (2, .iinc 7 1) :: (2, .goto 185) :: []
def s214_212 : List Ins := (2, .iinc 6 1) :: (2, .goto 40) :: []
def s214_218 : List Ins := (2, .lload 4) :: (2, .lreturn) :: []
def tx_214 : Tx := [(0, 15, s214_0), (3, 31, s214_3), (26, 31, s214_26), (27, 31, s214_27), (34, 11, s214_34), (40, 91, s214_40), (59, 219, s214_59), (80, 91, s214_80), (83, 219, s214_83), (128, 475, s214_128), (176, 219, s214_176), (182, 91, s214_182), (185, 219, s214_185), (212, 91, s214_212), (218, 16, s214_218)]
-- 215: WellPumpsModel.part(III)J
def s215_19 : List Ins := (2, .ifCond .eq 26) :: (2, .jsr 22) :: []
def s215_11 : List Ins := (2, .ifCond .ne 22) :: (2, .aload 0) :: (2, .iload 2) :: (2, .invokevirtual 70354) :: s215_19
def s215_0 : List Ins := (2, .aload 0) :: (0, .ldc 0) :: (1, .putfield 768) :: (2, .aload 0) :: (2, .aload 0) :: (2, .iload 1) :: (2, .invokevirtual 70866) :: s215_11
def s215_22 : List Ins := (0, .ldc 1) :: (2, .goto 27) :: []
def s215_26 : List Ins := (0, .ldc 0) :: (2, .jsr 27) :: []
def s215_42 : List Ins := (2, .ifCond .ne 49) :: (0, .ldc 1) :: (2, .goto 50) :: []
def s215_31 : List Ins := (2, .ifCond .ne 57) :: (2, .aload 0) :: (2, .iload 3) :: (0, .ldc 0) :: (0, .ldc 12) :: (2, .invokevirtual 67075) :: s215_42
def s215_27 : List Ins := (0, .ldc 1) :: (2, .invokevirtual 66771) :: s215_31
def s215_49 : List Ins := (0, .ldc 0) :: (2, .jsr 50) :: []
def s215_54 : List Ins := (2, .ifCond .eq 59) :: (2, .jsr 57) :: []
def s215_50 : List Ins := (0, .ldc 2) :: (2, .invokevirtual 66771) :: s215_54
def s215_57 : List Ins := (0, .ldc2_w 0) :: (2, .lreturn) :: []
def s215_66 : List Ins := (2, .lreturn) :: []
def s215_59 : List Ins := (2, .aload 0) :: (2, .iload 1) :: (2, .iload 2) :: (2, .iload 3) :: (2, .invokevirtual 109780) :: s215_66
def tx_215 : Tx := [(0, 15, s215_0), (22, 15, s215_22), (26, 15, s215_26), (27, 15, s215_27), (49, 15, s215_49), (50, 15, s215_50), (57, 0, s215_57), (59, 15, s215_59)]
-- 216: WellPumpsModel.most(II)I
def s216_26 : List Ins := (2, .ifCond .ne 33) :: (0, .ldc 1) :: (2, .goto 34) :: []
def s216_15 : List Ins := (2, .ifCond .ne 41) :: (2, .aload 0) :: (2, .iload 2) :: (0, .ldc 0) :: (0, .ldc 12) :: (2, .invokevirtual 67075) :: s216_26
def s216_11 : List Ins := (0, .ldc 1) :: (2, .invokevirtual 66771) :: s216_15
def s216_0 : List Ins := (2, .aload 0) :: (0, .ldc 0) :: (1, .putfield 768) :: (2, .aload 0) :: (2, .aload 0) :: (2, .iload 1) :: (2, .invokevirtual 70354) :: s216_11
def s216_33 : List Ins := (0, .ldc 0) :: (2, .jsr 34) :: []
def s216_38 : List Ins := (2, .ifCond .eq 43) :: (2, .jsr 41) :: []
def s216_34 : List Ins := (0, .ldc 2) :: (2, .invokevirtual 66771) :: s216_38
def s216_41 : List Ins := (0, .ldc 0) :: (2, .ireturn) :: []
def s216_43 : List Ins := (0, .ldc_w 1) :: (2, .istore 3) :: (0, .ldc2_w 0) :: (2, .lstore 4) :: (0, .ldc 0) :: (2, .istore 6) :: (2, .jsr 51) :: []
def s216_68 : List Ins := (2, .lstore 7) :: (2, .iload 3) :: (2, .ifCond .lt 85) :: (2, .lload 7) :: (2, .lload 4) :: (0, .lcmp) :: (2, .ifCond .gt 85) :: (2, .goto 92) :: []
def s216_57 : List Ins := (2, .if_icmp .ge 98) :: (2, .aload 0) :: (2, .iload 6) :: (2, .iload 1) :: (2, .iload 2) :: (2, .invokevirtual 109780) :: s216_68
def s216_51 : List Ins := (2, .iload 6) :: (2, .aload 0) :: (2, .invokevirtual 69329) :: s216_57
def s216_85 : List Ins := (2, .iload 6) :: (2, .istore 3) :: (2, .lload 7) :: (2, .lstore 4) :: (2, .jsr 92) :: []
def s216_92 : List Ins := (2, .iinc 6 1) :: (2, .goto 51) :: []
def s216_98 : List Ins := (2, .iload 3) :: (2, .ireturn) :: []
def tx_216 : Tx := [(0, 7, s216_0), (33, 7, s216_33), (34, 7, s216_34), (41, 0, s216_41), (43, 7, s216_43), (51, 95, s216_51), (85, 199, s216_85), (92, 95, s216_92), (98, 8, s216_98)]
-- 217: WellPumpsModel.edge(II)I
def s217_19 : List Ins := (2, .ifCond .eq 26) :: (2, .jsr 22) :: []
def s217_11 : List Ins := (2, .ifCond .ne 22) :: (2, .aload 0) :: (2, .iload 2) :: (2, .invokevirtual 70354) :: s217_19
def s217_0 : List Ins := (2, .aload 0) :: (0, .ldc 0) :: (1, .putfield 768) :: (2, .aload 0) :: (2, .aload 0) :: (2, .iload 1) :: (2, .invokevirtual 70866) :: s217_11
def s217_22 : List Ins := (0, .ldc 1) :: (2, .goto 27) :: []
def s217_26 : List Ins := (0, .ldc 0) :: (2, .jsr 27) :: []
def s217_31 : List Ins := (2, .ifCond .eq 36) :: (0, .ldc 0) :: (2, .ireturn) :: []
def s217_27 : List Ins := (0, .ldc 1) :: (2, .invokevirtual 66771) :: s217_31
def s217_58 : List Ins := (2, .aload 0) :: (1, .checkcast 800) :: (2, .iload 2) :: (1, .iaload) :: (2, .istore 5) :: (0, .ldc_w 1) :: (2, .istore 6) :: (0, .ldc 0) :: (2, .istore 7) :: (2, .jsr 72) :: []
def s217_36 : List Ins := (0, .ldc 17) :: (0, .ldc 5) :: (2, .iload 1) :: (0, .imul) :: (0, .iadd) :: (0, .ldc 3) :: (0, .iadd) :: (2, .istore 3) :: (2, .aload 0) :: (1, .checkcast 769) :: (2, .iload 3) :: (1, .iaload) :: (2, .istore 4) :: (2, .aload 0) :: (2, .iload 1) :: (2, .invokevirtual 101586) :: s217_58
def s217_107 : List Ins := (2, .if_icmp .lt 113) :: (2, .goto 141) :: []
def s217_99 : List Ins := (2, .iload 6) :: (2, .iload 4) :: (0, .isub) :: (2, .invokevirtual 116737) :: s217_107
def s217_72 : List Ins := (2, .iload 7) :: (0, .ldc 10) :: (2, .if_icmp .ge 147) :: (2, .iload 7) :: (2, .iload 4) :: (2, .if_icmp .eq 141) :: (2, .iload 6) :: (2, .ifCond .lt 113) :: (2, .iload 7) :: (2, .iload 4) :: (0, .isub) :: (2, .invokevirtual 116737) :: s217_99
def s217_126 : List Ins := (2, .aload 0) :: (1, .checkcast 800) :: (2, .iload 2) :: (1, .iaload) :: (2, .iload 5) :: (2, .if_icmp .eq 141) :: (2, .iload 7) :: (2, .istore 6) :: (2, .jsr 141) :: []
def s217_113 : List Ins := (2, .aload 0) :: (1, .checkcast 769) :: (2, .iload 3) :: (2, .iload 7) :: (1, .iastore) :: (2, .aload 0) :: (2, .iload 1) :: (2, .invokevirtual 101586) :: s217_126
def s217_141 : List Ins := (2, .iinc 7 1) :: (2, .goto 72) :: []
def s217_147 : List Ins := (2, .aload 0) :: (1, .checkcast 769) :: (2, .iload 3) :: (2, .iload 4) :: (1, .iastore) :: (2, .iload 6) :: (2, .ireturn) :: []
def tx_217 : Tx := [(0, 7, s217_0), (22, 7, s217_22), (26, 7, s217_26), (27, 7, s217_27), (36, 7, s217_36), (72, 255, s217_72), (113, 255, s217_113), (141, 255, s217_141), (147, 89, s217_147)]
-- 218: WellPumpsModel.lasts(I)I
def s218_15 : List Ins := (2, .ifCond .eq 20) :: (0, .ldc 0) :: (2, .ireturn) :: []
def s218_11 : List Ins := (0, .ldc 1) :: (2, .invokevirtual 66771) :: s218_15
def s218_0 : List Ins := (2, .aload 0) :: (0, .ldc 0) :: (1, .putfield 768) :: (2, .aload 0) :: (2, .aload 0) :: (2, .iload 1) :: (2, .invokevirtual 70354) :: s218_11
def s218_20 : List Ins := (2, .iload 1) :: (2, .istore 2) :: (0, .ldc 0) :: (2, .istore 3) :: (2, .jsr 24) :: []
def s218_24 : List Ins := (2, .iload 3) :: (0, .ldc 100) :: (2, .if_icmp .gt 53) :: (2, .iload 2) :: (2, .ifCond .ne 36) :: (2, .iload 3) :: (2, .ireturn) :: []
def s218_42 : List Ins := (2, .aload 0) :: (1, .getfield 787) :: (2, .istore 2) :: (2, .iinc 3 1) :: (2, .goto 24) :: []
def s218_36 : List Ins := (2, .aload 0) :: (2, .iload 2) :: (0, .ldc 0) :: (2, .invokevirtual 90323) :: s218_42
def s218_53 : List Ins := (0, .ldc_w 1) :: (2, .ireturn) :: []
def tx_218 : Tx := [(0, 3, s218_0), (20, 3, s218_20), (24, 13, s218_24), (36, 13, s218_36), (53, 0, s218_53)]
-- 219: WellPumpsModel.beside(III)V
def s219_31 : List Ins := (2, .ifCond .ne 38) :: (2, .jsr 34) :: []
def s219_22 : List Ins := (2, .ifCond .eq 34) :: (2, .iload 3) :: (0, .ldc 0) :: (0, .ldc 3) :: (2, .invokevirtual 67075) :: s219_31
def s219_13 : List Ins := (2, .ifCond .eq 34) :: (2, .iload 2) :: (0, .ldc 0) :: (2, .iload 1) :: (2, .invokevirtual 67075) :: s219_22
def s219_0 : List Ins := (2, .aload 0) :: (0, .ldc 0) :: (1, .putfield 768) :: (2, .aload 0) :: (2, .iload 1) :: (0, .ldc 1) :: (0, .ldc 7) :: (2, .invokevirtual 67075) :: s219_13
def s219_34 : List Ins := (0, .ldc 1) :: (2, .goto 39) :: []
def s219_38 : List Ins := (0, .ldc 0) :: (2, .jsr 39) :: []
def s219_43 : List Ins := (2, .ifCond .eq 47) :: (2, .return_) :: []
def s219_39 : List Ins := (0, .ldc 1) :: (2, .invokevirtual 66771) :: s219_43
def s219_47 : List Ins := (2, .aload 0) :: (1, .checkcast 769) :: (0, .ldc 14) :: (2, .iload 1) :: (1, .iastore) :: (2, .aload 0) :: (1, .checkcast 769) :: (0, .ldc 15) :: (2, .iload 2) :: (1, .iastore) :: (2, .aload 0) :: (1, .checkcast 769) :: (0, .ldc 16) :: (2, .iload 3) :: (1, .iastore) :: (2, .return_) :: []
def tx_219 : Tx := [(0, 15, s219_0), (34, 15, s219_34), (38, 15, s219_38), (39, 15, s219_39), (47, 15, s219_47)]
-- 220: WellPumpsModel.broken(III)I
def s220_35 : List Ins := (2, .ifCond .ne 42) :: (2, .jsr 38) :: []
def s220_26 : List Ins := (2, .ifCond .eq 38) :: (2, .iload 3) :: (0, .ldc 0) :: (0, .ldc 3) :: (2, .invokevirtual 67075) :: s220_35
def s220_15 : List Ins := (2, .ifCond .ne 50) :: (2, .aload 0) :: (2, .iload 1) :: (0, .ldc 0) :: (0, .ldc 99) :: (2, .invokevirtual 67075) :: s220_26
def s220_11 : List Ins := (0, .ldc 1) :: (2, .invokevirtual 66771) :: s220_15
def s220_0 : List Ins := (2, .aload 0) :: (0, .ldc 0) :: (1, .putfield 768) :: (2, .aload 0) :: (2, .aload 0) :: (2, .iload 2) :: (2, .invokevirtual 70866) :: s220_11
def s220_38 : List Ins := (0, .ldc 1) :: (2, .goto 43) :: []
def s220_42 : List Ins := (0, .ldc 0) :: (2, .jsr 43) :: []
def s220_47 : List Ins := (2, .ifCond .eq 52) :: (2, .jsr 50) :: []
def s220_43 : List Ins := (0, .ldc 2) :: (2, .invokevirtual 66771) :: s220_47
def s220_50 : List Ins := (0, .ldc 0) :: (2, .ireturn) :: []
def s220_52 : List Ins := (2, .aload 0) :: (1, .checkcast 769) :: (0, .ldc 12) :: (1, .iaload) :: (0, .ldc 6) :: (2, .if_icmp .ne 66) :: (0, .ldc_w 1) :: (2, .ireturn) :: []
def s220_66 : List Ins := (0, .ldc 57) :: (0, .ldc 3) :: (2, .aload 0) :: (1, .checkcast 769) :: (0, .ldc 12) :: (1, .iaload) :: (0, .imul) :: (0, .iadd) :: (2, .istore 4) :: (2, .aload 0) :: (1, .checkcast 769) :: (2, .iload 4) :: (2, .iload 1) :: (1, .iastore) :: (2, .aload 0) :: (1, .checkcast 769) :: (2, .iload 4) :: (0, .ldc 1) :: (0, .iadd) :: (2, .iload 2) :: (1, .iastore) :: (2, .aload 0) :: (1, .checkcast 769) :: (2, .iload 4) :: (0, .ldc 2) :: (0, .iadd) :: (2, .iload 3) :: (1, .iastore) :: (2, .aload 0) :: (1, .checkcast 769) :: (0, .ldc 12) :: (0, .dup2) :: (1, .iaload) :: (0, .ldc 1) :: (0, .iadd) :: (1, .iastore) :: (2, .aload 0) :: (1, .checkcast 769) :: (0, .ldc 12) :: (1, .iaload) :: (2, .ireturn) :: []
def tx_220 : Tx := [(0, 15, s220_0), (38, 15, s220_38), (42, 15, s220_42), (43, 15, s220_43), (50, 0, s220_50), (52, 15, s220_52), (66, 15, s220_66)]
-- 221: WellPumpsModel.row()I
def s221_4 : List Ins := (0, .ldc 1) :: (2, .istore 1) :: (0, .ldc 0) :: (2, .istore 2) :: (2, .jsr 8) :: []
def s221_0 : List Ins := (2, .aload 0) :: (2, .invokevirtual 75985) :: s221_4
def s221_31 : List Ins := (2, .ifCond .eq 38) :: (0, .ldc 1) :: (2, .goto 39) :: []
def s221_8 : List Ins := (2, .iload 2) :: (2, .aload 0) :: (1, .getfield 775) :: (2, .if_icmp .ge 46) :: (2, .iload 1) :: (2, .ifCond .eq 38) :: (2, .aload 0) :: (1, .checkcast 772) :: (2, .iload 2) :: (1, .baload) :: (0, .ldc 0) :: (0, .ldc 3) :: (2, .invokevirtual 67075) :: s221_31
def s221_38 : List Ins := (0, .ldc 0) :: (2, .jsr 39) :: []
def s221_39 : List Ins := (2, .istore 1) :: (2, .iinc 2 1) :: (2, .goto 8) :: []
def s221_46 : List Ins := (2, .aload 0) :: (2, .iload 1) :: (2, .ifCond .ne 55) :: (0, .ldc 1) :: (2, .goto 56) :: []
def s221_55 : List Ins := (0, .ldc 0) :: (2, .jsr 56) :: []
def s221_60 : List Ins := (2, .ifCond .eq 65) :: (0, .ldc 0) :: (2, .ireturn) :: []
def s221_56 : List Ins := (0, .ldc 1) :: (2, .invokevirtual 66771) :: s221_60
def s221_65 : List Ins := (0, .ldc 0) :: (2, .istore 2) :: (2, .jsr 67) :: []
def s221_67 : List Ins := (2, .iload 2) :: (2, .aload 0) :: (1, .getfield 775) :: (2, .if_icmp .ge 96) :: (2, .aload 0) :: (1, .checkcast 769) :: (0, .ldc 75) :: (2, .iload 2) :: (0, .iadd) :: (2, .aload 0) :: (1, .checkcast 772) :: (2, .iload 2) :: (1, .baload) :: (1, .iastore) :: (2, .iinc 2 1) :: (2, .goto 67) :: []
def s221_96 : List Ins := (2, .aload 0) :: (1, .checkcast 769) :: (0, .ldc 13) :: (2, .aload 0) :: (1, .getfield 775) :: (1, .iastore) :: (2, .aload 0) :: (1, .getfield 775) :: (2, .ireturn) :: []
def tx_221 : Tx := [(0, 1, s221_0), (8, 7, s221_8), (38, 5, s221_38), (39, 5, s221_39), (46, 3, s221_46), (55, 1, s221_55), (56, 1, s221_56), (65, 1, s221_65), (67, 5, s221_67), (96, 1, s221_96)]
-- 222: WellPumpsModel.partOf(I)I
def s222_5 : List Ins := (0, .irem) :: (2, .istore 2) :: (0, .ldc 0) :: (2, .istore 3) :: (2, .jsr 9) :: []
def s222_0 : List Ins := (2, .iload 1) :: (2, .aload 0) :: (2, .invokevirtual 69841) :: s222_5
def s222_9 : List Ins := (2, .iload 2) :: (2, .aload 0) :: (1, .checkcast 769) :: (0, .ldc 2) :: (2, .iload 3) :: (0, .iadd) :: (1, .iaload) :: (2, .if_icmp .lt 38) :: (2, .iload 2) :: (2, .aload 0) :: (1, .checkcast 769) :: (0, .ldc 2) :: (2, .iload 3) :: (0, .iadd) :: (1, .iaload) :: (0, .isub) :: (2, .istore 2) :: (2, .iinc 3 1) :: (2, .goto 9) :: []
def s222_38 : List Ins := (2, .iload 3) :: (2, .ireturn) :: []
def tx_222 : Tx := [(0, 3, s222_0), (9, 13, s222_9), (38, 8, s222_38)]
-- 223: WellPumpsModel.run(IIIZI)I
def s223_26 : List Ins := (2, .ifCond .ne 33) :: (0, .ldc 1) :: (2, .goto 34) :: []
def s223_15 : List Ins := (2, .ifCond .ne 65) :: (2, .aload 0) :: (2, .iload 2) :: (0, .ldc 0) :: (0, .ldc 100) :: (2, .invokevirtual 67075) :: s223_26
def s223_11 : List Ins := (0, .ldc 1) :: (2, .invokevirtual 66771) :: s223_15
def s223_0 : List Ins := (2, .aload 0) :: (0, .ldc 0) :: (1, .putfield 768) :: (2, .aload 0) :: (2, .aload 0) :: (2, .iload 1) :: (2, .invokevirtual 70354) :: s223_11
def s223_33 : List Ins := (0, .ldc 0) :: (2, .jsr 34) :: []
def s223_50 : List Ins := (2, .ifCond .ne 57) :: (0, .ldc 1) :: (2, .goto 58) :: []
def s223_38 : List Ins := (2, .ifCond .ne 65) :: (2, .aload 0) :: (2, .iload 5) :: (0, .ldc 0) :: (0, .ldc 7) :: (2, .invokevirtual 67075) :: s223_50
def s223_34 : List Ins := (0, .ldc 2) :: (2, .invokevirtual 66771) :: s223_38
def s223_57 : List Ins := (0, .ldc 0) :: (2, .jsr 58) :: []
def s223_62 : List Ins := (2, .ifCond .eq 67) :: (2, .jsr 65) :: []
def s223_58 : List Ins := (0, .ldc 3) :: (2, .invokevirtual 66771) :: s223_62
def s223_65 : List Ins := (0, .ldc 0) :: (2, .ireturn) :: []
def s223_67 : List Ins := (2, .iload 1) :: (2, .istore 6) :: (2, .aload 0) :: (1, .checkcast 769) :: (0, .ldc 15) :: (1, .iaload) :: (2, .istore 7) :: (0, .ldc 0) :: (2, .istore 8) :: (2, .iload 3) :: (2, .istore 9) :: (0, .ldc 0) :: (2, .istore 10) :: (0, .ldc_w 1) :: (2, .istore 11) :: (0, .ldc_w 1) :: (2, .istore 12) :: (0, .ldc 0) :: (2, .istore 13) :: (0, .ldc 0) :: (2, .istore 14) :: (2, .jsr 100) :: []
def s223_100 : List Ins := (2, .iload 14) :: (2, .iload 2) :: (2, .if_icmp .ge 439) :: (2, .iload 13) :: (2, .ifCond .eq 120) :: (2, .iload 12) :: (2, .ifCond .ge 120) :: (2, .iload 14) :: (2, .istore 12) :: (2, .jsr 120) :: []
def s223_131 : List Ins := (0, .ldc 0) :: (2, .istore 16) :: (2, .jsr 134) :: []
def s223_120 : List Ins := (0, .ldc 0) :: (2, .istore 15) :: (2, .aload 0) :: (2, .iload 6) :: (2, .iload 13) :: (2, .invokevirtual 89811) :: s223_131
def s223_134 : List Ins := (2, .iload 16) :: (2, .aload 0) :: (1, .checkcast 769) :: (0, .ldc 12) :: (1, .iaload) :: (2, .if_icmp .ge 202) :: (2, .aload 0) :: (1, .checkcast 769) :: (0, .ldc 57) :: (0, .ldc 3) :: (2, .iload 16) :: (0, .imul) :: (0, .iadd) :: (1, .iaload) :: (2, .iload 14) :: (2, .if_icmp .ne 196) :: (2, .aload 0) :: (1, .checkcast 784) :: (2, .aload 0) :: (1, .checkcast 769) :: (0, .ldc 57) :: (0, .ldc 3) :: (2, .iload 16) :: (0, .imul) :: (0, .iadd) :: (0, .ldc 1) :: (0, .iadd) :: (1, .iaload) :: (2, .aload 0) :: (1, .checkcast 769) :: (0, .ldc 57) :: (0, .ldc 3) :: (2, .iload 16) :: (0, .imul) :: (0, .iadd) :: (0, .ldc 2) :: (0, .iadd) :: (1, .iaload) :: (1, .iastore) :: (2, .jsr 196) :: []
def s223_196 : List Ins := (2, .iinc 16 1) :: (2, .goto 134) :: []
def s223_202 : List Ins := (0, .ldc 0) :: (2, .istore 16) :: (2, .jsr 205) :: []
def s223_235 : List Ins := (2, .if_icmp .le 242) :: (2, .jsr 238) :: []
def s223_211 : List Ins := (2, .if_icmp .ge 251) :: (2, .iload 15) :: (2, .ifCond .ne 238) :: (2, .aload 0) :: (1, .checkcast 784) :: (2, .iload 16) :: (1, .iaload) :: (2, .aload 0) :: (2, .iload 16) :: (2, .iload 6) :: (0, .ldc 0) :: (2, .invokevirtual 87764) :: s223_235
def s223_205 : List Ins := (2, .iload 16) :: (2, .aload 0) :: (2, .invokevirtual 69329) :: s223_211
def s223_238 : List Ins := (0, .ldc 1) :: (2, .goto 243) :: []
def s223_242 : List Ins := (0, .ldc 0) :: (2, .jsr 243) :: []
def s223_243 : List Ins := (2, .istore 15) :: (2, .iinc 16 1) :: (2, .goto 205) :: []
def s223_267 : List Ins := (2, .if_icmp .ge 282) :: (2, .iload 10) :: (2, .aload 0) :: (1, .checkcast 786) :: (2, .iload 5) :: (1, .iaload) :: (0, .iadd) :: (2, .istore 10) :: (2, .jsr 282) :: []
def s223_261 : List Ins := (2, .iload 5) :: (2, .aload 0) :: (2, .invokevirtual 69329) :: s223_267
def s223_258 : List Ins := (2, .invokevirtual 88787) :: s223_261
def s223_251 : List Ins := (2, .aload 0) :: (2, .iload 6) :: (2, .aload 0) :: (2, .invokevirtual 89297) :: s223_258
def s223_313 : List Ins := (2, .istore 16) :: (2, .iload 7) :: (2, .iload 16) :: (0, .isub) :: (2, .istore 7) :: (2, .iload 8) :: (2, .iload 16) :: (0, .iadd) :: (2, .istore 8) :: (2, .iload 9) :: (0, .ldc 1103515245) :: (0, .imul) :: (0, .ldc 12345) :: (0, .iadd) :: (2, .istore 9) :: (2, .iload 4) :: (2, .ifCond .eq 375) :: (2, .iload 14) :: (2, .aload 0) :: (1, .checkcast 769) :: (0, .ldc 13) :: (1, .iaload) :: (2, .if_icmp .ge 371) :: (2, .aload 0) :: (1, .checkcast 769) :: (0, .ldc 75) :: (2, .iload 14) :: (0, .iadd) :: (1, .iaload) :: (2, .goto 388) :: []
def s223_299 : List Ins := (2, .istore 7) :: (2, .iload 7) :: (2, .aload 0) :: (1, .checkcast 769) :: (0, .ldc 16) :: (1, .iaload) :: (2, .invokevirtual 118274) :: s223_313
def s223_282 : List Ins := (2, .aload 0) :: (1, .checkcast 769) :: (0, .ldc 14) :: (1, .iaload) :: (2, .iload 7) :: (2, .aload 0) :: (1, .getfield 788) :: (0, .iadd) :: (2, .invokevirtual 118274) :: s223_299
def s223_371 : List Ins := (0, .ldc 0) :: (2, .goto 388) :: []
def s223_400 : List Ins := (2, .istore 6) :: (2, .iload 6) :: (2, .ifCond .ne 416) :: (2, .iload 11) :: (2, .ifCond .ge 416) :: (2, .iload 14) :: (2, .istore 11) :: (2, .jsr 416) :: []
def s223_388 : List Ins := (2, .istore 17) :: (2, .aload 0) :: (2, .aload 0) :: (1, .getfield 787) :: (2, .iload 17) :: (2, .invokevirtual 90835) :: s223_400
def s223_375 : List Ins := (2, .aload 0) :: (2, .iload 9) :: (0, .ldc 16) :: (0, .ishr) :: (0, .ldc 32767) :: (0, .iand) :: (2, .invokevirtual 113874) :: s223_388
def s223_416 : List Ins := (2, .iload 13) :: (2, .ifCond .ne 426) :: (2, .iload 15) :: (2, .ifCond .eq 430) :: (2, .jsr 426) :: []
def s223_426 : List Ins := (0, .ldc 1) :: (2, .goto 431) :: []
def s223_430 : List Ins := (0, .ldc 0) :: (2, .jsr 431) :: []
def s223_431 : List Ins := (2, .istore 13) :: (2, .iinc 14 1) :: (2, .goto 100) :: []
def s223_439 : List Ins := (2, .iload 5) :: (0, .ldc 3) :: (2, .if_icmp .ge 450) :: (2, .iload 10) :: (2, .goto 511) :: []
def s223_450 : List Ins := (2, .iload 5) :: (0, .ldc 3) :: (2, .if_icmp .ne 461) :: (2, .iload 6) :: (2, .goto 511) :: []
def s223_461 : List Ins := (2, .iload 5) :: (0, .ldc 4) :: (2, .if_icmp .ne 472) :: (2, .iload 11) :: (2, .goto 511) :: []
def s223_472 : List Ins := (2, .iload 5) :: (0, .ldc 5) :: (2, .if_icmp .ne 483) :: (2, .iload 12) :: (2, .goto 511) :: []
def s223_483 : List Ins := (2, .iload 5) :: (0, .ldc 7) :: (2, .if_icmp .ne 495) :: (2, .iload 8) :: (2, .goto 511) :: []
def s223_495 : List Ins := (2, .aload 0) :: (1, .checkcast 769) :: (0, .ldc 14) :: (1, .iaload) :: (2, .ifCond .ne 509) :: (0, .ldc_w 1) :: (2, .goto 511) :: []
def s223_509 : List Ins := (2, .iload 7) :: (2, .jsr 511) :: []
def s223_511 : List Ins := (2, .ireturn) :: []
def tx_223 : Tx := [(0, 63, s223_0), (33, 63, s223_33), (34, 63, s223_34), (57, 63, s223_57), (58, 63, s223_58), (65, 0, s223_65), (67, 63, s223_67), (100, 32757, s223_100), (120, 32757, s223_120), (134, 131061, s223_134), (196, 131061, s223_196), (202, 65525, s223_202), (205, 131061, s223_205), (238, 98293, s223_238), (242, 98293, s223_242), (243, 98293, s223_243), (251, 65525, s223_251), (282, 65461, s223_282), (371, 65461, s223_371), (375, 65461, s223_375), (388, 65461, s223_388), (416, 65525, s223_416), (426, 24565, s223_426), (430, 24565, s223_430), (431, 24565, s223_431), (439, 7649, s223_439), (450, 6625, s223_450), (461, 6561, s223_461), (472, 4513, s223_472), (483, 417, s223_483), (495, 129, s223_495), (509, 128, s223_509), (511, 0, s223_511)]
-- 224: WellPumpsModel.count(I)I
def s224_0 : List Ins := (2, .aload 0) :: (0, .ldc 0) :: (1, .putfield 768) :: (0, .ldc 0) :: (2, .istore 2) :: (2, .iload 1) :: (2, .tableswitch 192 0 8 #[60, 65, 73, 81, 86, 94, 102, 107, 112]) :: []
def s224_64 : List Ins := (2, .ireturn) :: []
def s224_60 : List Ins := (2, .aload 0) :: (2, .invokevirtual 69329) :: s224_64
def s224_65 : List Ins := (2, .aload 0) :: (1, .checkcast 769) :: (0, .ldc 11) :: (1, .iaload) :: (2, .ireturn) :: []
def s224_73 : List Ins := (2, .aload 0) :: (1, .checkcast 769) :: (0, .ldc 9) :: (1, .iaload) :: (2, .ireturn) :: []
def s224_85 : List Ins := (2, .ireturn) :: []
def s224_81 : List Ins := (2, .aload 0) :: (2, .invokevirtual 89297) :: s224_85
def s224_86 : List Ins := (2, .aload 0) :: (1, .checkcast 769) :: (0, .ldc 12) :: (1, .iaload) :: (2, .ireturn) :: []
def s224_94 : List Ins := (2, .aload 0) :: (1, .checkcast 769) :: (0, .ldc 13) :: (1, .iaload) :: (2, .ireturn) :: []
def s224_106 : List Ins := (2, .ireturn) :: []
def s224_102 : List Ins := (2, .aload 0) :: (2, .invokevirtual 69841) :: s224_106
def s224_111 : List Ins := (2, .ireturn) :: []
def s224_107 : List Ins := (2, .aload 0) :: (2, .invokevirtual 68817) :: s224_111
def s224_112 : List Ins := (0, .ldc 0) :: (2, .istore 3) :: (2, .jsr 114) :: []
def s224_128 : List Ins := (0, .ldc 1) :: (2, .istore 4) :: (0, .ldc 0) :: (2, .istore 5) :: (2, .jsr 134) :: []
def s224_119 : List Ins := (2, .if_icmp .gt 190) :: (2, .aload 0) :: (2, .iload 3) :: (0, .ldc 0) :: (2, .invokevirtual 89811) :: s224_128
def s224_114 : List Ins := (2, .iload 3) :: (2, .aload 0) :: (2, .invokevirtual 68817) :: s224_119
def s224_140 : List Ins := (2, .if_icmp .ge 171) :: (2, .iload 4) :: (2, .ifCond .eq 162) :: (2, .aload 0) :: (1, .checkcast 784) :: (2, .iload 5) :: (1, .iaload) :: (2, .ifCond .ne 162) :: (0, .ldc 1) :: (2, .goto 163) :: []
def s224_134 : List Ins := (2, .iload 5) :: (2, .aload 0) :: (2, .invokevirtual 69329) :: s224_140
def s224_162 : List Ins := (0, .ldc 0) :: (2, .jsr 163) :: []
def s224_163 : List Ins := (2, .istore 4) :: (2, .iinc 5 1) :: (2, .goto 134) :: []
def s224_171 : List Ins := (2, .iload 2) :: (2, .iload 4) :: (2, .ifCond .eq 181) :: (0, .ldc 1) :: (2, .goto 182) :: []
def s224_181 : List Ins := (0, .ldc 0) :: (2, .jsr 182) :: []
def s224_182 : List Ins := (0, .iadd) :: (2, .istore 2) :: (2, .iinc 3 1) :: (2, .goto 114) :: []
def s224_190 : List Ins := (2, .iload 2) :: (2, .ireturn) :: []
def s224_192 : List Ins := (0, .ldc_w 1) :: (2, .ireturn) :: []
def tx_224 : Tx := [(0, 3, s224_0), (60, 1, s224_60), (65, 1, s224_65), (73, 1, s224_73), (81, 1, s224_81), (86, 1, s224_86), (94, 1, s224_94), (102, 1, s224_102), (107, 1, s224_107), (112, 5, s224_112), (114, 13, s224_114), (134, 61, s224_134), (162, 45, s224_162), (163, 45, s224_163), (171, 29, s224_171), (181, 9, s224_181), (182, 9, s224_182), (190, 4, s224_190), (192, 0, s224_192)]
-- 225: java/lang/Integer.bitCount(I)I
def s225_0 : List Ins := (2, .iload 0) :: (2, .iload 0) :: (0, .ldc 1) :: (0, .iushr) :: (0, .ldc 1431655765) :: (0, .iand) :: (0, .isub) :: (2, .istore 0) :: (2, .iload 0) :: (0, .ldc 858993459) :: (0, .iand) :: (2, .iload 0) :: (0, .ldc 2) :: (0, .iushr) :: (0, .ldc 858993459) :: (0, .iand) :: (0, .iadd) :: (2, .istore 0) :: (2, .iload 0) :: (2, .iload 0) :: (0, .ldc 4) :: (0, .iushr) :: (0, .iadd) :: (0, .ldc 252645135) :: (0, .iand) :: (2, .istore 0) :: (2, .iload 0) :: (2, .iload 0) :: (0, .ldc 8) :: (0, .iushr) :: (0, .iadd) :: (2, .istore 0) :: (2, .iload 0) :: (2, .iload 0) :: (0, .ldc 16) :: (0, .iushr) :: (0, .iadd) :: (2, .istore 0) :: (2, .iload 0) :: (0, .ldc 63) :: (0, .iand) :: (2, .ireturn) :: []
def tx_225 : Tx := [(0, 1, s225_0)]
-- 226: java/lang/Math.floorDiv(JJ)J
def s226_0 : List Ins := (2, .lload 0) :: (2, .lload 2) :: (0, .ldiv) :: (2, .lstore 4) :: (2, .lload 0) :: (2, .lload 2) :: (0, .lxor) :: (0, .ldc2_w 0) :: (0, .lcmp) :: (2, .ifCond .ge 27) :: (2, .lload 4) :: (2, .lload 2) :: (0, .lmul) :: (2, .lload 0) :: (0, .lcmp) :: (2, .ifCond .eq 27) :: (2, .lload 4) :: (0, .ldc2_w 1) :: (0, .lsub) :: (2, .lreturn) :: []
def s226_27 : List Ins := (2, .lload 4) :: (2, .lreturn) :: []
def tx_226 : Tx := [(0, 5, s226_0), (27, 16, s226_27)]
-- 227: java/lang/Math.floorMod(JJ)J
def s227_0 : List Ins := (2, .lload 0) :: (2, .lload 2) :: (0, .lrem) :: (2, .lstore 4) :: (2, .lload 0) :: (2, .lload 2) :: (0, .lxor) :: (0, .ldc2_w 0) :: (0, .lcmp) :: (2, .ifCond .ge 25) :: (2, .lload 4) :: (0, .ldc2_w 0) :: (0, .lcmp) :: (2, .ifCond .eq 25) :: (2, .lload 4) :: (2, .lload 2) :: (0, .ladd) :: (2, .lreturn) :: []
def s227_25 : List Ins := (2, .lload 4) :: (2, .lreturn) :: []
def tx_227 : Tx := [(0, 5, s227_0), (25, 16, s227_25)]
-- 228: java/lang/Math.abs(I)I
def s228_0 : List Ins := (2, .iload 0) :: (2, .ifCond .ge 9) :: (2, .iload 0) :: (0, .ineg) :: (2, .goto 10) :: []
def s228_9 : List Ins := (2, .iload 0) :: (2, .jsr 10) :: []
def s228_10 : List Ins := (2, .ireturn) :: []
def tx_228 : Tx := [(0, 1, s228_0), (9, 1, s228_9), (10, 0, s228_10)]
-- 229: java/lang/Math.abs(J)J
def s229_0 : List Ins := (2, .lload 0) :: (0, .ldc2_w 0) :: (0, .lcmp) :: (2, .ifCond .ge 11) :: (2, .lload 0) :: (0, .lneg) :: (2, .goto 12) :: []
def s229_11 : List Ins := (2, .lload 0) :: (2, .jsr 12) :: []
def s229_12 : List Ins := (2, .lreturn) :: []
def tx_229 : Tx := [(0, 1, s229_0), (11, 1, s229_11), (12, 0, s229_12)]
-- 230: java/lang/Math.max(II)I
def s230_0 : List Ins := (2, .iload 0) :: (2, .iload 1) :: (2, .if_icmp .lt 9) :: (2, .iload 0) :: (2, .goto 10) :: []
def s230_9 : List Ins := (2, .iload 1) :: (2, .jsr 10) :: []
def s230_10 : List Ins := (2, .ireturn) :: []
def tx_230 : Tx := [(0, 3, s230_0), (9, 2, s230_9), (10, 0, s230_10)]
-- 231: java/lang/Math.min(II)I
def s231_0 : List Ins := (2, .iload 0) :: (2, .iload 1) :: (2, .if_icmp .gt 9) :: (2, .iload 0) :: (2, .goto 10) :: []
def s231_9 : List Ins := (2, .iload 1) :: (2, .jsr 10) :: []
def s231_10 : List Ins := (2, .ireturn) :: []
def tx_231 : Tx := [(0, 3, s231_0), (9, 2, s231_9), (10, 0, s231_10)]
-- 232: java/util/Arrays.fill([JJ)V
def s232_0 : List Ins := (0, .ldc 0) :: (2, .istore 3) :: (2, .aload 0) :: (1, .ddiv) :: (2, .istore 4) :: (2, .jsr 6) :: []
def s232_6 : List Ins := (2, .iload 3) :: (2, .iload 4) :: (2, .if_icmp .ge 22) :: (2, .aload 0) :: (2, .iload 3) :: (2, .lload 1) :: (1, .sastore) :: (2, .iinc 3 1) :: (2, .goto 6) :: []
def s232_22 : List Ins := (2, .return_) :: []
def tx_232 : Tx := [(0, 3, s232_0), (6, 27, s232_6), (22, 0, s232_22)]
-- 233: java/util/Arrays.fill([II)V
def s233_0 : List Ins := (0, .ldc 0) :: (2, .istore 2) :: (2, .aload 0) :: (1, .ddiv) :: (2, .istore 3) :: (2, .jsr 5) :: []
def s233_5 : List Ins := (2, .iload 2) :: (2, .iload 3) :: (2, .if_icmp .ge 20) :: (2, .aload 0) :: (2, .iload 2) :: (2, .iload 1) :: (1, .castore) :: (2, .iinc 2 1) :: (2, .goto 5) :: []
def s233_20 : List Ins := (2, .return_) :: []
def tx_233 : Tx := [(0, 3, s233_0), (5, 15, s233_5), (20, 0, s233_20)]
-- 234: WellPumpsLaw.well(LWellPumps;II)I
def s234_6 : List Ins := (2, .goto 12) :: []
def s234_0 : List Ins := (2, .aload 0) :: (2, .iload 1) :: (2, .iload 2) :: (2, .invokespecial 41667) :: s234_6
def s234_12 : List Ins := (0, .ldc 0) :: (2, .ireturn) :: []
def tx_234 : Tx := [(0, 7, s234_0), (12, 0, s234_12)]
-- 235: WellPumpsLaw.rain(LWellPumps;IIII)I
def s235_9 : List Ins := (2, .goto 16) :: []
def s235_0 : List Ins := (2, .aload 0) :: (2, .iload 1) :: (2, .iload 2) :: (2, .iload 3) :: (2, .iload 4) :: (2, .invokespecial 42181) :: s235_9
def s235_16 : List Ins := (0, .ldc 0) :: (2, .ireturn) :: []
def tx_235 : Tx := [(0, 31, s235_0), (16, 0, s235_16)]
-- 236: WellPumpsLaw.years(LWellPumps;II)I
def s236_6 : List Ins := (2, .goto 12) :: []
def s236_0 : List Ins := (2, .aload 0) :: (2, .iload 1) :: (2, .iload 2) :: (2, .invokespecial 42691) :: s236_6
def s236_12 : List Ins := (0, .ldc 0) :: (2, .ireturn) :: []
def tx_236 : Tx := [(0, 7, s236_0), (12, 0, s236_12)]
-- 237: WellPumpsLaw.farm(LWellPumps;IIII[J)I
def s237_12 : List Ins := (0, .i2l) :: (1, .lastore) :: (2, .goto 25) :: []
def s237_0 : List Ins := (2, .aload 5) :: (0, .ldc 0) :: (2, .aload 0) :: (2, .iload 1) :: (2, .iload 2) :: (2, .iload 3) :: (2, .iload 4) :: (2, .invokespecial 43205) :: s237_12
def s237_25 : List Ins := (0, .ldc 0) :: (2, .ireturn) :: []
def tx_237 : Tx := [(0, 63, s237_0), (25, 0, s237_25)]
-- 238: WellPumpsLaw.rule(LWellPumps;IIIII[J)I
def s238_14 : List Ins := (0, .i2l) :: (1, .lastore) :: (2, .goto 27) :: []
def s238_0 : List Ins := (2, .aload 6) :: (0, .ldc 0) :: (2, .aload 0) :: (2, .iload 1) :: (2, .iload 2) :: (2, .iload 3) :: (2, .iload 4) :: (2, .iload 5) :: (2, .invokespecial 43718) :: s238_14
def s238_27 : List Ins := (0, .ldc 0) :: (2, .ireturn) :: []
def tx_238 : Tx := [(0, 127, s238_0), (27, 0, s238_27)]
-- 239: WellPumpsLaw.force(LWellPumps;I[J)I
def s239_7 : List Ins := (2, .ifCond .eq 14) :: (0, .ldc2_w 1) :: (2, .goto 15) :: []
def s239_0 : List Ins := (2, .aload 2) :: (0, .ldc 0) :: (2, .aload 0) :: (2, .iload 1) :: (2, .invokespecial 44226) :: s239_7
def s239_14 : List Ins := (0, .ldc2_w 0) :: (2, .jsr 15) :: []
def s239_15 : List Ins := (1, .lastore) :: (2, .goto 22) :: []
def s239_22 : List Ins := (0, .ldc 0) :: (2, .ireturn) :: []
def tx_239 : Tx := [(0, 7, s239_0), (14, 0, s239_14), (15, 0, s239_15), (22, 0, s239_22)]
-- 240: WellPumpsLaw.draw(LWellPumps;[J)I
def s240_6 : List Ins := (0, .i2l) :: (1, .lastore) :: (2, .goto 17) :: []
def s240_0 : List Ins := (2, .aload 1) :: (0, .ldc 0) :: (2, .aload 0) :: (2, .invokespecial 44737) :: s240_6
def s240_17 : List Ins := (0, .ldc 0) :: (2, .ireturn) :: []
def tx_240 : Tx := [(0, 3, s240_0), (17, 0, s240_17)]
-- 241: WellPumpsLaw.by(LWellPumps;II[J)I
def s241_8 : List Ins := (2, .ifCond .eq 15) :: (0, .ldc2_w 1) :: (2, .goto 16) :: []
def s241_0 : List Ins := (2, .aload 3) :: (0, .ldc 0) :: (2, .aload 0) :: (2, .iload 1) :: (2, .iload 2) :: (2, .invokespecial 45763) :: s241_8
def s241_15 : List Ins := (0, .ldc2_w 0) :: (2, .jsr 16) :: []
def s241_16 : List Ins := (1, .lastore) :: (2, .goto 24) :: []
def s241_24 : List Ins := (0, .ldc 0) :: (2, .ireturn) :: []
def tx_241 : Tx := [(0, 15, s241_0), (15, 0, s241_15), (16, 0, s241_16), (24, 0, s241_24)]
-- 242: WellPumpsLaw.wants(LWellPumps;IIZZ[J)I
def s242_12 : List Ins := (0, .i2l) :: (1, .lastore) :: (2, .goto 21) :: []
def s242_0 : List Ins := (2, .aload 5) :: (0, .ldc 0) :: (2, .aload 0) :: (2, .iload 1) :: (2, .iload 2) :: (2, .iload 3) :: (2, .iload 4) :: (2, .invokespecial 49349) :: s242_12
def s242_21 : List Ins := (0, .ldc 0) :: (2, .ireturn) :: []
def tx_242 : Tx := [(0, 63, s242_0), (21, 0, s242_21)]
-- 243: WellPumpsLaw.gains(LWellPumps;IIZ[J)I
def s243_10 : List Ins := (0, .i2l) :: (1, .lastore) :: (2, .goto 19) :: []
def s243_0 : List Ins := (2, .aload 4) :: (0, .ldc 0) :: (2, .aload 0) :: (2, .iload 1) :: (2, .iload 2) :: (2, .iload 3) :: (2, .invokespecial 49860) :: s243_10
def s243_19 : List Ins := (0, .ldc 0) :: (2, .ireturn) :: []
def tx_243 : Tx := [(0, 31, s243_0), (19, 0, s243_19)]
-- 244: WellPumpsLaw.next(LWellPumps;IZI[J)I
def s244_10 : List Ins := (0, .i2l) :: (1, .lastore) :: (2, .goto 19) :: []
def s244_0 : List Ins := (2, .aload 4) :: (0, .ldc 0) :: (2, .aload 0) :: (2, .iload 1) :: (2, .iload 2) :: (2, .iload 3) :: (2, .invokespecial 50372) :: s244_10
def s244_19 : List Ins := (0, .ldc 0) :: (2, .ireturn) :: []
def tx_244 : Tx := [(0, 31, s244_0), (19, 0, s244_19)]
-- 245: WellPumpsLaw.worth(LWellPumps;IIZZ[J)I
def s245_12 : List Ins := (1, .lastore) :: (2, .goto 20) :: []
def s245_0 : List Ins := (2, .aload 5) :: (0, .ldc 0) :: (2, .aload 0) :: (2, .iload 1) :: (2, .iload 2) :: (2, .iload 3) :: (2, .iload 4) :: (2, .invokespecial 50885) :: s245_12
def s245_20 : List Ins := (0, .ldc 0) :: (2, .ireturn) :: []
def tx_245 : Tx := [(0, 63, s245_0), (20, 0, s245_20)]
-- 246: WellPumpsLaw.answer(LWellPumps;II[J)I
def s246_8 : List Ins := (0, .i2l) :: (1, .lastore) :: (2, .goto 17) :: []
def s246_0 : List Ins := (2, .aload 3) :: (0, .ldc 0) :: (2, .aload 0) :: (2, .iload 1) :: (2, .iload 2) :: (2, .invokespecial 52931) :: s246_8
def s246_17 : List Ins := (0, .ldc 0) :: (2, .ireturn) :: []
def tx_246 : Tx := [(0, 15, s246_0), (17, 0, s246_17)]
-- 247: WellPumpsLaw.owner(LWellPumps;II[J)I
def s247_8 : List Ins := (0, .i2l) :: (1, .lastore) :: (2, .goto 17) :: []
def s247_0 : List Ins := (2, .aload 3) :: (0, .ldc 0) :: (2, .aload 0) :: (2, .iload 1) :: (2, .iload 2) :: (2, .invokespecial 53955) :: s247_8
def s247_17 : List Ins := (0, .ldc 0) :: (2, .ireturn) :: []
def tx_247 : Tx := [(0, 15, s247_0), (17, 0, s247_17)]
-- 248: WellPumpsLaw.owned(LWellPumps;IZ[J)I
def s248_8 : List Ins := (1, .lastore) :: (2, .goto 16) :: []
def s248_0 : List Ins := (2, .aload 3) :: (0, .ldc 0) :: (2, .aload 0) :: (2, .iload 1) :: (2, .iload 2) :: (2, .invokespecial 54467) :: s248_8
def s248_16 : List Ins := (0, .ldc 0) :: (2, .ireturn) :: []
def tx_248 : Tx := [(0, 15, s248_0), (16, 0, s248_16)]
-- 249: WellPumpsLaw.lost(LWellPumps;I[J)I
def s249_7 : List Ins := (1, .lastore) :: (2, .goto 14) :: []
def s249_0 : List Ins := (2, .aload 2) :: (0, .ldc 0) :: (2, .aload 0) :: (2, .iload 1) :: (2, .invokespecial 54978) :: s249_7
def s249_14 : List Ins := (0, .ldc 0) :: (2, .ireturn) :: []
def tx_249 : Tx := [(0, 7, s249_0), (14, 0, s249_14)]
-- 250: WellPumpsLaw.near(LWellPumps;III[J)I
def s250_10 : List Ins := (0, .i2l) :: (1, .lastore) :: (2, .goto 23) :: []
def s250_0 : List Ins := (2, .aload 4) :: (0, .ldc 0) :: (2, .aload 0) :: (2, .iload 1) :: (2, .iload 2) :: (2, .iload 3) :: (2, .invokespecial 55492) :: s250_10
def s250_23 : List Ins := (0, .ldc 0) :: (2, .ireturn) :: []
def tx_250 : Tx := [(0, 31, s250_0), (23, 0, s250_23)]
-- 251: WellPumpsLaw.rest(LWellPumps;III[J)I
def s251_10 : List Ins := (0, .i2l) :: (1, .lastore) :: (2, .goto 23) :: []
def s251_0 : List Ins := (2, .aload 4) :: (0, .ldc 0) :: (2, .aload 0) :: (2, .iload 1) :: (2, .iload 2) :: (2, .iload 3) :: (2, .invokespecial 56004) :: s251_10
def s251_23 : List Ins := (0, .ldc 0) :: (2, .ireturn) :: []
def tx_251 : Tx := [(0, 31, s251_0), (23, 0, s251_23)]
-- 252: WellPumpsLaw.restWorth(LWellPumps;IIIZ[J)I
def s252_12 : List Ins := (1, .lastore) :: (2, .goto 24) :: []
def s252_0 : List Ins := (2, .aload 5) :: (0, .ldc 0) :: (2, .aload 0) :: (2, .iload 1) :: (2, .iload 2) :: (2, .iload 3) :: (2, .iload 4) :: (2, .invokespecial 56517) :: s252_12
def s252_24 : List Ins := (0, .ldc 0) :: (2, .ireturn) :: []
def tx_252 : Tx := [(0, 63, s252_0), (24, 0, s252_24)]
-- 253: WellPumpsLaw.nearest(LWellPumps;II[J)I
def s253_8 : List Ins := (0, .i2l) :: (1, .lastore) :: (2, .goto 21) :: []
def s253_0 : List Ins := (2, .aload 3) :: (0, .ldc 0) :: (2, .aload 0) :: (2, .iload 1) :: (2, .iload 2) :: (2, .invokespecial 57027) :: s253_8
def s253_21 : List Ins := (0, .ldc 0) :: (2, .ireturn) :: []
def tx_253 : Tx := [(0, 15, s253_0), (21, 0, s253_21)]
-- 254: WellPumpsLaw.pacts(LWellPumps;I[J)I
def s254_7 : List Ins := (0, .i2l) :: (1, .lastore) :: (2, .goto 15) :: []
def s254_0 : List Ins := (2, .aload 2) :: (0, .ldc 0) :: (2, .aload 0) :: (2, .iload 1) :: (2, .invokespecial 51906) :: s254_7
def s254_15 : List Ins := (0, .ldc 0) :: (2, .ireturn) :: []
def tx_254 : Tx := [(0, 7, s254_0), (15, 0, s254_15)]
-- 255: WellPumpsLaw.dry(LWellPumps;II[J)I
def s255_8 : List Ins := (1, .lastore) :: (2, .goto 20) :: []
def s255_0 : List Ins := (2, .aload 3) :: (0, .ldc 0) :: (2, .aload 0) :: (2, .iload 1) :: (2, .iload 2) :: (2, .invokespecial 57539) :: s255_8
def s255_20 : List Ins := (0, .ldc 0) :: (2, .ireturn) :: []
def tx_255 : Tx := [(0, 15, s255_0), (20, 0, s255_20)]
-- 256: WellPumpsLaw.broken(LWellPumps;III[J)I
def s256_10 : List Ins := (0, .i2l) :: (1, .lastore) :: (2, .goto 23) :: []
def s256_0 : List Ins := (2, .aload 4) :: (0, .ldc 0) :: (2, .aload 0) :: (2, .iload 1) :: (2, .iload 2) :: (2, .iload 3) :: (2, .invokespecial 46276) :: s256_10
def s256_23 : List Ins := (0, .ldc 0) :: (2, .ireturn) :: []
def tx_256 : Tx := [(0, 31, s256_0), (23, 0, s256_23)]
-- 257: WellPumpsLaw.row(LWellPumps;[J)I
def s257_6 : List Ins := (0, .i2l) :: (1, .lastore) :: (2, .goto 14) :: []
def s257_0 : List Ins := (2, .aload 1) :: (0, .ldc 0) :: (2, .aload 0) :: (2, .invokespecial 46785) :: s257_6
def s257_14 : List Ins := (0, .ldc 0) :: (2, .ireturn) :: []
def tx_257 : Tx := [(0, 3, s257_0), (14, 0, s257_14)]
-- 258: WellPumpsLaw.run(LWellPumps;IIIZI[J)I
def s258_14 : List Ins := (0, .i2l) :: (1, .lastore) :: (2, .goto 31) :: []
def s258_0 : List Ins := (2, .aload 6) :: (0, .ldc 0) :: (2, .aload 0) :: (2, .iload 1) :: (2, .iload 2) :: (2, .iload 3) :: (2, .iload 4) :: (2, .iload 5) :: (2, .invokespecial 59590) :: s258_14
def s258_31 : List Ins := (0, .ldc 0) :: (2, .ireturn) :: []
def tx_258 : Tx := [(0, 127, s258_0), (31, 0, s258_31)]
-- 259: WellPumpsLaw.part(LWellPumps;III[J)I
def s259_10 : List Ins := (1, .lastore) :: (2, .goto 22) :: []
def s259_0 : List Ins := (2, .aload 4) :: (0, .ldc 0) :: (2, .aload 0) :: (2, .iload 1) :: (2, .iload 2) :: (2, .iload 3) :: (2, .invokespecial 58052) :: s259_10
def s259_22 : List Ins := (0, .ldc 0) :: (2, .ireturn) :: []
def tx_259 : Tx := [(0, 31, s259_0), (22, 0, s259_22)]
-- 260: WellPumpsLaw.most(LWellPumps;II[J)I
def s260_8 : List Ins := (0, .i2l) :: (1, .lastore) :: (2, .goto 21) :: []
def s260_0 : List Ins := (2, .aload 3) :: (0, .ldc 0) :: (2, .aload 0) :: (2, .iload 1) :: (2, .iload 2) :: (2, .invokespecial 58563) :: s260_8
def s260_21 : List Ins := (0, .ldc 0) :: (2, .ireturn) :: []
def tx_260 : Tx := [(0, 15, s260_0), (21, 0, s260_21)]
-- 261: WellPumpsLaw.edge(LWellPumps;II[J)I
def s261_8 : List Ins := (0, .i2l) :: (1, .lastore) :: (2, .goto 17) :: []
def s261_0 : List Ins := (2, .aload 3) :: (0, .ldc 0) :: (2, .aload 0) :: (2, .iload 1) :: (2, .iload 2) :: (2, .invokespecial 53443) :: s261_8
def s261_17 : List Ins := (0, .ldc 0) :: (2, .ireturn) :: []
def tx_261 : Tx := [(0, 15, s261_0), (17, 0, s261_17)]
-- 262: WellPumpsLaw.lasts(LWellPumps;I[J)I
def s262_7 : List Ins := (0, .i2l) :: (1, .lastore) :: (2, .goto 15) :: []
def s262_0 : List Ins := (2, .aload 2) :: (0, .ldc 0) :: (2, .aload 0) :: (2, .iload 1) :: (2, .invokespecial 59074) :: s262_7
def s262_15 : List Ins := (0, .ldc 0) :: (2, .ireturn) :: []
def tx_262 : Tx := [(0, 7, s262_0), (15, 0, s262_15)]
-- 263: WellPumpsLaw.beside(LWellPumps;III)I
def s263_7 : List Ins := (2, .goto 14) :: []
def s263_0 : List Ins := (2, .aload 0) :: (2, .iload 1) :: (2, .iload 2) :: (2, .iload 3) :: (2, .invokespecial 47300) :: s263_7
def s263_14 : List Ins := (0, .ldc 0) :: (2, .ireturn) :: []
def tx_263 : Tx := [(0, 15, s263_0), (14, 0, s263_14)]
-- 900: WellPumpsLaw.law([I)Z
def s900_23 : List Ins := (2, .iload 4) :: (2, .aload 0) :: (1, .dadd) :: (0, .ldc 6) :: (0, .isub) :: (2, .if_icmp .gt 2692) :: (2, .aload 0) :: (2, .iload 4) :: (1, .daload) :: (0, .ldc 63) :: (0, .iand) :: (2, .tableswitch 2686 0 37 #[208, 281, 306, 354, 426, 474, 566, 670, 733, 777, 790, 865, 989, 1085, 1181, 1304, 1317, 1385, 1453, 1536, 1591, 1671, 1751, 1858, 1926, 1982, 1995, 2062, 2142, 2186, 2306, 2385, 2453, 2521, 2577, 2637, 2648, 2661]) :: []
def s900_276 : List Ins := (2, .if_icmp .eq 2686) :: (0, .ldc 0) :: (2, .freturn) :: []
def s900_242 : List Ins := (2, .aload 2) :: (2, .aload 0) :: (2, .iload 4) :: (0, .ldc 1) :: (0, .iadd) :: (1, .daload) :: (2, .aload 0) :: (2, .iload 4) :: (0, .ldc 2) :: (0, .iadd) :: (1, .daload) :: (2, .aload 0) :: (2, .iload 4) :: (0, .ldc 3) :: (0, .iadd) :: (1, .daload) :: (2, .aload 0) :: (2, .iload 4) :: (0, .ldc 4) :: (0, .iadd) :: (1, .daload) :: (2, .aload 0) :: (2, .iload 4) :: (0, .ldc 5) :: (0, .iadd) :: (1, .daload) :: (2, .invokevirtual 74966) :: s900_276
def s900_208 : List Ins := (2, .aload 1) :: (2, .aload 0) :: (2, .iload 4) :: (0, .ldc 1) :: (0, .iadd) :: (1, .daload) :: (2, .aload 0) :: (2, .iload 4) :: (0, .ldc 2) :: (0, .iadd) :: (1, .daload) :: (2, .aload 0) :: (2, .iload 4) :: (0, .ldc 3) :: (0, .iadd) :: (1, .daload) :: (2, .aload 0) :: (2, .iload 4) :: (0, .ldc 4) :: (0, .iadd) :: (1, .daload) :: (2, .aload 0) :: (2, .iload 4) :: (0, .ldc 5) :: (0, .iadd) :: (1, .daload) :: (2, .invokevirtual 40646) :: s900_242
def s900_301 : List Ins := (2, .if_icmp .eq 2686) :: (0, .ldc 0) :: (2, .freturn) :: []
def s900_291 : List Ins := (2, .aload 2) :: (2, .aload 0) :: (2, .iload 4) :: (0, .ldc 1) :: (0, .iadd) :: (1, .daload) :: (2, .invokevirtual 75474) :: s900_301
def s900_281 : List Ins := (2, .aload 1) :: (2, .aload 0) :: (2, .iload 4) :: (0, .ldc 1) :: (0, .iadd) :: (1, .daload) :: (2, .invokevirtual 41154) :: s900_291
def s900_344 : List Ins := (2, .iload 5) :: (2, .if_icmp .eq 351) :: (0, .ldc 0) :: (2, .freturn) :: []
def s900_340 : List Ins := (2, .aload 2) :: (2, .invokevirtual 66257) :: s900_344
def s900_322 : List Ins := (2, .istore 5) :: (2, .aload 2) :: (2, .aload 0) :: (2, .iload 4) :: (0, .ldc 1) :: (0, .iadd) :: (1, .daload) :: (2, .aload 0) :: (2, .iload 4) :: (0, .ldc 2) :: (0, .iadd) :: (1, .daload) :: (2, .invokevirtual 71891) :: s900_340
def s900_306 : List Ins := (2, .aload 1) :: (2, .aload 0) :: (2, .iload 4) :: (0, .ldc 1) :: (0, .iadd) :: (1, .daload) :: (2, .aload 0) :: (2, .iload 4) :: (0, .ldc 2) :: (0, .iadd) :: (1, .daload) :: (2, .invokestatic 119811) :: s900_322
def s900_351 : List Ins := (2, .goto 2686) :: []
def s900_416 : List Ins := (2, .iload 5) :: (2, .if_icmp .eq 423) :: (0, .ldc 0) :: (2, .freturn) :: []
def s900_412 : List Ins := (2, .aload 2) :: (2, .invokevirtual 66257) :: s900_416
def s900_382 : List Ins := (2, .istore 5) :: (2, .aload 2) :: (2, .aload 0) :: (2, .iload 4) :: (0, .ldc 1) :: (0, .iadd) :: (1, .daload) :: (2, .aload 0) :: (2, .iload 4) :: (0, .ldc 2) :: (0, .iadd) :: (1, .daload) :: (2, .aload 0) :: (2, .iload 4) :: (0, .ldc 3) :: (0, .iadd) :: (1, .daload) :: (2, .aload 0) :: (2, .iload 4) :: (0, .ldc 4) :: (0, .iadd) :: (1, .daload) :: (2, .invokevirtual 72405) :: s900_412
def s900_354 : List Ins := (2, .aload 1) :: (2, .aload 0) :: (2, .iload 4) :: (0, .ldc 1) :: (0, .iadd) :: (1, .daload) :: (2, .aload 0) :: (2, .iload 4) :: (0, .ldc 2) :: (0, .iadd) :: (1, .daload) :: (2, .aload 0) :: (2, .iload 4) :: (0, .ldc 3) :: (0, .iadd) :: (1, .daload) :: (2, .aload 0) :: (2, .iload 4) :: (0, .ldc 4) :: (0, .iadd) :: (1, .daload) :: (2, .invokestatic 120325) :: s900_382
def s900_423 : List Ins := (2, .goto 2686) :: []
def s900_464 : List Ins := (2, .iload 5) :: (2, .if_icmp .eq 471) :: (0, .ldc 0) :: (2, .freturn) :: []
def s900_460 : List Ins := (2, .aload 2) :: (2, .invokevirtual 66257) :: s900_464
def s900_442 : List Ins := (2, .istore 5) :: (2, .aload 2) :: (2, .aload 0) :: (2, .iload 4) :: (0, .ldc 1) :: (0, .iadd) :: (1, .daload) :: (2, .aload 0) :: (2, .iload 4) :: (0, .ldc 2) :: (0, .iadd) :: (1, .daload) :: (2, .invokevirtual 72915) :: s900_460
def s900_426 : List Ins := (2, .aload 1) :: (2, .aload 0) :: (2, .iload 4) :: (0, .ldc 1) :: (0, .iadd) :: (1, .daload) :: (2, .aload 0) :: (2, .iload 4) :: (0, .ldc 2) :: (0, .iadd) :: (1, .daload) :: (2, .invokestatic 120835) :: s900_442
def s900_471 : List Ins := (2, .goto 2686) :: []
def s900_539 : List Ins := (2, .iload 5) :: (2, .if_icmp .eq 546) :: (0, .ldc 0) :: (2, .freturn) :: []
def s900_533 : List Ins := (2, .istore 6) :: (2, .aload 2) :: (2, .invokevirtual 66257) :: s900_539
def s900_503 : List Ins := (2, .istore 5) :: (2, .aload 2) :: (2, .aload 0) :: (2, .iload 4) :: (0, .ldc 1) :: (0, .iadd) :: (1, .daload) :: (2, .aload 0) :: (2, .iload 4) :: (0, .ldc 2) :: (0, .iadd) :: (1, .daload) :: (2, .aload 0) :: (2, .iload 4) :: (0, .ldc 3) :: (0, .iadd) :: (1, .daload) :: (2, .aload 0) :: (2, .iload 4) :: (0, .ldc 4) :: (0, .iadd) :: (1, .daload) :: (2, .invokevirtual 73429) :: s900_533
def s900_474 : List Ins := (2, .aload 1) :: (2, .aload 0) :: (2, .iload 4) :: (0, .ldc 1) :: (0, .iadd) :: (1, .daload) :: (2, .aload 0) :: (2, .iload 4) :: (0, .ldc 2) :: (0, .iadd) :: (1, .daload) :: (2, .aload 0) :: (2, .iload 4) :: (0, .ldc 3) :: (0, .iadd) :: (1, .daload) :: (2, .aload 0) :: (2, .iload 4) :: (0, .ldc 4) :: (0, .iadd) :: (1, .daload) :: (2, .aload 3) :: (2, .invokestatic 121350) :: s900_503
def s900_546 : List Ins := (2, .iload 5) :: (2, .ifCond .ne 563) :: (2, .aload 3) :: (0, .ldc 0) :: (1, .laload) :: (2, .iload 6) :: (0, .i2l) :: (0, .lcmp) :: (2, .ifCond .eq 563) :: (0, .ldc 0) :: (2, .freturn) :: []
def s900_563 : List Ins := (2, .goto 2686) :: []
def s900_643 : List Ins := (2, .iload 5) :: (2, .if_icmp .eq 650) :: (0, .ldc 0) :: (2, .freturn) :: []
def s900_637 : List Ins := (2, .istore 6) :: (2, .aload 2) :: (2, .invokevirtual 66257) :: s900_643
def s900_601 : List Ins := (2, .istore 5) :: (2, .aload 2) :: (2, .aload 0) :: (2, .iload 4) :: (0, .ldc 1) :: (0, .iadd) :: (1, .daload) :: (2, .aload 0) :: (2, .iload 4) :: (0, .ldc 2) :: (0, .iadd) :: (1, .daload) :: (2, .aload 0) :: (2, .iload 4) :: (0, .ldc 3) :: (0, .iadd) :: (1, .daload) :: (2, .aload 0) :: (2, .iload 4) :: (0, .ldc 4) :: (0, .iadd) :: (1, .daload) :: (2, .aload 0) :: (2, .iload 4) :: (0, .ldc 5) :: (0, .iadd) :: (1, .daload) :: (2, .invokevirtual 73942) :: s900_637
def s900_566 : List Ins := (2, .aload 1) :: (2, .aload 0) :: (2, .iload 4) :: (0, .ldc 1) :: (0, .iadd) :: (1, .daload) :: (2, .aload 0) :: (2, .iload 4) :: (0, .ldc 2) :: (0, .iadd) :: (1, .daload) :: (2, .aload 0) :: (2, .iload 4) :: (0, .ldc 3) :: (0, .iadd) :: (1, .daload) :: (2, .aload 0) :: (2, .iload 4) :: (0, .ldc 4) :: (0, .iadd) :: (1, .daload) :: (2, .aload 0) :: (2, .iload 4) :: (0, .ldc 5) :: (0, .iadd) :: (1, .daload) :: (2, .aload 3) :: (2, .invokestatic 121863) :: s900_601
def s900_650 : List Ins := (2, .iload 5) :: (2, .ifCond .ne 667) :: (2, .aload 3) :: (0, .ldc 0) :: (1, .laload) :: (2, .iload 6) :: (0, .i2l) :: (0, .lcmp) :: (2, .ifCond .eq 667) :: (0, .ldc 0) :: (2, .freturn) :: []
def s900_667 : List Ins := (2, .goto 2686) :: []
def s900_699 : List Ins := (2, .iload 5) :: (2, .if_icmp .eq 706) :: (0, .ldc 0) :: (2, .freturn) :: []
def s900_693 : List Ins := (2, .istore 6) :: (2, .aload 2) :: (2, .invokevirtual 66257) :: s900_699
def s900_681 : List Ins := (2, .istore 5) :: (2, .aload 2) :: (2, .aload 0) :: (2, .iload 4) :: (0, .ldc 1) :: (0, .iadd) :: (1, .daload) :: (2, .invokevirtual 74450) :: s900_693
def s900_670 : List Ins := (2, .aload 1) :: (2, .aload 0) :: (2, .iload 4) :: (0, .ldc 1) :: (0, .iadd) :: (1, .daload) :: (2, .aload 3) :: (2, .invokestatic 122371) :: s900_681
def s900_706 : List Ins := (2, .iload 5) :: (2, .ifCond .ne 730) :: (2, .aload 3) :: (0, .ldc 0) :: (1, .laload) :: (2, .iload 6) :: (2, .ifCond .eq 723) :: (0, .ldc2_w 1) :: (2, .goto 724) :: []
def s900_723 : List Ins := (0, .ldc2_w 0) :: (2, .jsr 724) :: []
def s900_724 : List Ins := (0, .lcmp) :: (2, .ifCond .eq 730) :: (0, .ldc 0) :: (2, .freturn) :: []
def s900_730 : List Ins := (2, .goto 2686) :: []
def s900_750 : List Ins := (2, .iload 5) :: (2, .if_icmp .eq 757) :: (0, .ldc 0) :: (2, .freturn) :: []
def s900_744 : List Ins := (2, .istore 6) :: (2, .aload 2) :: (2, .invokevirtual 66257) :: s900_750
def s900_738 : List Ins := (2, .istore 5) :: (2, .aload 2) :: (2, .invokevirtual 85713) :: s900_744
def s900_733 : List Ins := (2, .aload 1) :: (2, .aload 3) :: (2, .invokestatic 122882) :: s900_738
def s900_757 : List Ins := (2, .iload 5) :: (2, .ifCond .ne 774) :: (2, .aload 3) :: (0, .ldc 0) :: (1, .laload) :: (2, .iload 6) :: (0, .i2l) :: (0, .lcmp) :: (2, .ifCond .eq 774) :: (0, .ldc 0) :: (2, .freturn) :: []
def s900_774 : List Ins := (2, .goto 2686) :: []
def s900_785 : List Ins := (2, .if_icmp .eq 2686) :: (0, .ldc 0) :: (2, .freturn) :: []
def s900_781 : List Ins := (2, .aload 2) :: (2, .invokevirtual 80081) :: s900_785
def s900_777 : List Ins := (2, .aload 1) :: (2, .invokevirtual 45249) :: s900_781
def s900_831 : List Ins := (2, .iload 5) :: (2, .if_icmp .eq 838) :: (0, .ldc 0) :: (2, .freturn) :: []
def s900_825 : List Ins := (2, .istore 6) :: (2, .aload 2) :: (2, .invokevirtual 66257) :: s900_831
def s900_807 : List Ins := (2, .istore 5) :: (2, .aload 2) :: (2, .aload 0) :: (2, .iload 4) :: (0, .ldc 1) :: (0, .iadd) :: (1, .daload) :: (2, .aload 0) :: (2, .iload 4) :: (0, .ldc 2) :: (0, .iadd) :: (1, .daload) :: (2, .invokevirtual 86227) :: s900_825
def s900_790 : List Ins := (2, .aload 1) :: (2, .aload 0) :: (2, .iload 4) :: (0, .ldc 1) :: (0, .iadd) :: (1, .daload) :: (2, .aload 0) :: (2, .iload 4) :: (0, .ldc 2) :: (0, .iadd) :: (1, .daload) :: (2, .aload 3) :: (2, .invokestatic 123396) :: s900_807
def s900_838 : List Ins := (2, .iload 5) :: (2, .ifCond .ne 862) :: (2, .aload 3) :: (0, .ldc 0) :: (1, .laload) :: (2, .iload 6) :: (2, .ifCond .eq 855) :: (0, .ldc2_w 1) :: (2, .goto 856) :: []
def s900_855 : List Ins := (0, .ldc2_w 0) :: (2, .jsr 856) :: []
def s900_856 : List Ins := (0, .lcmp) :: (2, .ifCond .eq 862) :: (0, .ldc 0) :: (2, .freturn) :: []
def s900_862 : List Ins := (2, .goto 2686) :: []
def s900_865 : List Ins := (2, .aload 1) :: (2, .aload 0) :: (2, .iload 4) :: (0, .ldc 1) :: (0, .iadd) :: (1, .daload) :: (2, .aload 0) :: (2, .iload 4) :: (0, .ldc 2) :: (0, .iadd) :: (1, .daload) :: (2, .aload 0) :: (2, .iload 4) :: (0, .ldc 3) :: (0, .iadd) :: (1, .daload) :: (2, .ifCond .eq 891) :: (0, .ldc 1) :: (2, .goto 892) :: []
def s900_891 : List Ins := (0, .ldc 0) :: (2, .jsr 892) :: []
def s900_892 : List Ins := (2, .aload 0) :: (2, .iload 4) :: (0, .ldc 4) :: (0, .iadd) :: (1, .daload) :: (2, .ifCond .eq 905) :: (0, .ldc 1) :: (2, .goto 906) :: []
def s900_905 : List Ins := (0, .ldc 0) :: (2, .jsr 906) :: []
def s900_910 : List Ins := (2, .istore 5) :: (2, .aload 2) :: (2, .aload 0) :: (2, .iload 4) :: (0, .ldc 1) :: (0, .iadd) :: (1, .daload) :: (2, .aload 0) :: (2, .iload 4) :: (0, .ldc 2) :: (0, .iadd) :: (1, .daload) :: (2, .aload 0) :: (2, .iload 4) :: (0, .ldc 3) :: (0, .iadd) :: (1, .daload) :: (2, .ifCond .eq 938) :: (0, .ldc 1) :: (2, .goto 939) :: []
def s900_906 : List Ins := (2, .aload 3) :: (2, .invokestatic 123910) :: s900_910
def s900_938 : List Ins := (0, .ldc 0) :: (2, .jsr 939) :: []
def s900_939 : List Ins := (2, .aload 0) :: (2, .iload 4) :: (0, .ldc 4) :: (0, .iadd) :: (1, .daload) :: (2, .ifCond .eq 952) :: (0, .ldc 1) :: (2, .goto 953) :: []
def s900_952 : List Ins := (0, .ldc 0) :: (2, .jsr 953) :: []
def s900_962 : List Ins := (2, .iload 5) :: (2, .if_icmp .eq 969) :: (0, .ldc 0) :: (2, .freturn) :: []
def s900_956 : List Ins := (2, .istore 6) :: (2, .aload 2) :: (2, .invokevirtual 66257) :: s900_962
def s900_953 : List Ins := (2, .invokevirtual 91349) :: s900_956
def s900_969 : List Ins := (2, .iload 5) :: (2, .ifCond .ne 986) :: (2, .aload 3) :: (0, .ldc 0) :: (1, .laload) :: (2, .iload 6) :: (0, .i2l) :: (0, .lcmp) :: (2, .ifCond .eq 986) :: (0, .ldc 0) :: (2, .freturn) :: []
def s900_986 : List Ins := (2, .goto 2686) :: []
def s900_989 : List Ins := (2, .aload 1) :: (2, .aload 0) :: (2, .iload 4) :: (0, .ldc 1) :: (0, .iadd) :: (1, .daload) :: (2, .aload 0) :: (2, .iload 4) :: (0, .ldc 2) :: (0, .iadd) :: (1, .daload) :: (2, .aload 0) :: (2, .iload 4) :: (0, .ldc 3) :: (0, .iadd) :: (1, .daload) :: (2, .ifCond .eq 1015) :: (0, .ldc 1) :: (2, .goto 1016) :: []
def s900_1015 : List Ins := (0, .ldc 0) :: (2, .jsr 1016) :: []
def s900_1020 : List Ins := (2, .istore 5) :: (2, .aload 2) :: (2, .aload 0) :: (2, .iload 4) :: (0, .ldc 1) :: (0, .iadd) :: (1, .daload) :: (2, .aload 0) :: (2, .iload 4) :: (0, .ldc 2) :: (0, .iadd) :: (1, .daload) :: (2, .aload 0) :: (2, .iload 4) :: (0, .ldc 3) :: (0, .iadd) :: (1, .daload) :: (2, .ifCond .eq 1048) :: (0, .ldc 1) :: (2, .goto 1049) :: []
def s900_1016 : List Ins := (2, .aload 3) :: (2, .invokestatic 124421) :: s900_1020
def s900_1048 : List Ins := (0, .ldc 0) :: (2, .jsr 1049) :: []
def s900_1058 : List Ins := (2, .iload 5) :: (2, .if_icmp .eq 1065) :: (0, .ldc 0) :: (2, .freturn) :: []
def s900_1052 : List Ins := (2, .istore 6) :: (2, .aload 2) :: (2, .invokevirtual 66257) :: s900_1058
def s900_1049 : List Ins := (2, .invokevirtual 91860) :: s900_1052
def s900_1065 : List Ins := (2, .iload 5) :: (2, .ifCond .ne 1082) :: (2, .aload 3) :: (0, .ldc 0) :: (1, .laload) :: (2, .iload 6) :: (0, .i2l) :: (0, .lcmp) :: (2, .ifCond .eq 1082) :: (0, .ldc 0) :: (2, .freturn) :: []
def s900_1082 : List Ins := (2, .goto 2686) :: []
def s900_1085 : List Ins := (2, .aload 1) :: (2, .aload 0) :: (2, .iload 4) :: (0, .ldc 1) :: (0, .iadd) :: (1, .daload) :: (2, .aload 0) :: (2, .iload 4) :: (0, .ldc 2) :: (0, .iadd) :: (1, .daload) :: (2, .ifCond .eq 1105) :: (0, .ldc 1) :: (2, .goto 1106) :: []
def s900_1105 : List Ins := (0, .ldc 0) :: (2, .jsr 1106) :: []
def s900_1116 : List Ins := (2, .istore 5) :: (2, .aload 2) :: (2, .aload 0) :: (2, .iload 4) :: (0, .ldc 1) :: (0, .iadd) :: (1, .daload) :: (2, .aload 0) :: (2, .iload 4) :: (0, .ldc 2) :: (0, .iadd) :: (1, .daload) :: (2, .ifCond .eq 1138) :: (0, .ldc 1) :: (2, .goto 1139) :: []
def s900_1106 : List Ins := (2, .aload 0) :: (2, .iload 4) :: (0, .ldc 3) :: (0, .iadd) :: (1, .daload) :: (2, .aload 3) :: (2, .invokestatic 124933) :: s900_1116
def s900_1138 : List Ins := (0, .ldc 0) :: (2, .jsr 1139) :: []
def s900_1154 : List Ins := (2, .iload 5) :: (2, .if_icmp .eq 1161) :: (0, .ldc 0) :: (2, .freturn) :: []
def s900_1148 : List Ins := (2, .istore 6) :: (2, .aload 2) :: (2, .invokevirtual 66257) :: s900_1154
def s900_1139 : List Ins := (2, .aload 0) :: (2, .iload 4) :: (0, .ldc 3) :: (0, .iadd) :: (1, .daload) :: (2, .invokevirtual 92372) :: s900_1148
def s900_1161 : List Ins := (2, .iload 5) :: (2, .ifCond .ne 1178) :: (2, .aload 3) :: (0, .ldc 0) :: (1, .laload) :: (2, .iload 6) :: (0, .i2l) :: (0, .lcmp) :: (2, .ifCond .eq 1178) :: (0, .ldc 0) :: (2, .freturn) :: []
def s900_1178 : List Ins := (2, .goto 2686) :: []
def s900_1181 : List Ins := (2, .aload 1) :: (2, .aload 0) :: (2, .iload 4) :: (0, .ldc 1) :: (0, .iadd) :: (1, .daload) :: (2, .aload 0) :: (2, .iload 4) :: (0, .ldc 2) :: (0, .iadd) :: (1, .daload) :: (2, .aload 0) :: (2, .iload 4) :: (0, .ldc 3) :: (0, .iadd) :: (1, .daload) :: (2, .ifCond .eq 1207) :: (0, .ldc 1) :: (2, .goto 1208) :: []
def s900_1207 : List Ins := (0, .ldc 0) :: (2, .jsr 1208) :: []
def s900_1208 : List Ins := (2, .aload 0) :: (2, .iload 4) :: (0, .ldc 4) :: (0, .iadd) :: (1, .daload) :: (2, .ifCond .eq 1221) :: (0, .ldc 1) :: (2, .goto 1222) :: []
def s900_1221 : List Ins := (0, .ldc 0) :: (2, .jsr 1222) :: []
def s900_1226 : List Ins := (2, .istore 5) :: (2, .aload 2) :: (2, .aload 0) :: (2, .iload 4) :: (0, .ldc 1) :: (0, .iadd) :: (1, .daload) :: (2, .aload 0) :: (2, .iload 4) :: (0, .ldc 2) :: (0, .iadd) :: (1, .daload) :: (2, .aload 0) :: (2, .iload 4) :: (0, .ldc 3) :: (0, .iadd) :: (1, .daload) :: (2, .ifCond .eq 1254) :: (0, .ldc 1) :: (2, .goto 1255) :: []
def s900_1222 : List Ins := (2, .aload 3) :: (2, .invokestatic 125446) :: s900_1226
def s900_1254 : List Ins := (0, .ldc 0) :: (2, .jsr 1255) :: []
def s900_1255 : List Ins := (2, .aload 0) :: (2, .iload 4) :: (0, .ldc 4) :: (0, .iadd) :: (1, .daload) :: (2, .ifCond .eq 1268) :: (0, .ldc 1) :: (2, .goto 1269) :: []
def s900_1268 : List Ins := (0, .ldc 0) :: (2, .jsr 1269) :: []
def s900_1278 : List Ins := (2, .iload 5) :: (2, .if_icmp .eq 1285) :: (0, .ldc 0) :: (2, .freturn) :: []
def s900_1272 : List Ins := (2, .lstore 6) :: (2, .aload 2) :: (2, .invokevirtual 66257) :: s900_1278
def s900_1269 : List Ins := (2, .invokevirtual 97493) :: s900_1272
def s900_1285 : List Ins := (2, .iload 5) :: (2, .ifCond .ne 1301) :: (2, .aload 3) :: (0, .ldc 0) :: (1, .laload) :: (2, .lload 6) :: (0, .lcmp) :: (2, .ifCond .eq 1301) :: (0, .ldc 0) :: (2, .freturn) :: []
def s900_1301 : List Ins := (2, .goto 2686) :: []
def s900_1312 : List Ins := (2, .if_icmp .eq 2686) :: (0, .ldc 0) :: (2, .freturn) :: []
def s900_1308 : List Ins := (2, .aload 2) :: (2, .invokevirtual 99025) :: s900_1312
def s900_1304 : List Ins := (2, .aload 1) :: (2, .invokevirtual 51393) :: s900_1308
def s900_1358 : List Ins := (2, .iload 5) :: (2, .if_icmp .eq 1365) :: (0, .ldc 0) :: (2, .freturn) :: []
def s900_1352 : List Ins := (2, .istore 6) :: (2, .aload 2) :: (2, .invokevirtual 66257) :: s900_1358
def s900_1334 : List Ins := (2, .istore 5) :: (2, .aload 2) :: (2, .aload 0) :: (2, .iload 4) :: (0, .ldc 1) :: (0, .iadd) :: (1, .daload) :: (2, .aload 0) :: (2, .iload 4) :: (0, .ldc 2) :: (0, .iadd) :: (1, .daload) :: (2, .invokevirtual 102099) :: s900_1352
def s900_1317 : List Ins := (2, .aload 1) :: (2, .aload 0) :: (2, .iload 4) :: (0, .ldc 1) :: (0, .iadd) :: (1, .daload) :: (2, .aload 0) :: (2, .iload 4) :: (0, .ldc 2) :: (0, .iadd) :: (1, .daload) :: (2, .aload 3) :: (2, .invokestatic 125956) :: s900_1334
def s900_1365 : List Ins := (2, .iload 5) :: (2, .ifCond .ne 1382) :: (2, .aload 3) :: (0, .ldc 0) :: (1, .laload) :: (2, .iload 6) :: (0, .i2l) :: (0, .lcmp) :: (2, .ifCond .eq 1382) :: (0, .ldc 0) :: (2, .freturn) :: []
def s900_1382 : List Ins := (2, .goto 2686) :: []
def s900_1426 : List Ins := (2, .iload 5) :: (2, .if_icmp .eq 1433) :: (0, .ldc 0) :: (2, .freturn) :: []
def s900_1420 : List Ins := (2, .istore 6) :: (2, .aload 2) :: (2, .invokevirtual 66257) :: s900_1426
def s900_1402 : List Ins := (2, .istore 5) :: (2, .aload 2) :: (2, .aload 0) :: (2, .iload 4) :: (0, .ldc 1) :: (0, .iadd) :: (1, .daload) :: (2, .aload 0) :: (2, .iload 4) :: (0, .ldc 2) :: (0, .iadd) :: (1, .daload) :: (2, .invokevirtual 102611) :: s900_1420
def s900_1385 : List Ins := (2, .aload 1) :: (2, .aload 0) :: (2, .iload 4) :: (0, .ldc 1) :: (0, .iadd) :: (1, .daload) :: (2, .aload 0) :: (2, .iload 4) :: (0, .ldc 2) :: (0, .iadd) :: (1, .daload) :: (2, .aload 3) :: (2, .invokestatic 126468) :: s900_1402
def s900_1433 : List Ins := (2, .iload 5) :: (2, .ifCond .ne 1450) :: (2, .aload 3) :: (0, .ldc 0) :: (1, .laload) :: (2, .iload 6) :: (0, .i2l) :: (0, .lcmp) :: (2, .ifCond .eq 1450) :: (0, .ldc 0) :: (2, .freturn) :: []
def s900_1450 : List Ins := (2, .goto 2686) :: []
def s900_1453 : List Ins := (2, .aload 1) :: (2, .aload 0) :: (2, .iload 4) :: (0, .ldc 1) :: (0, .iadd) :: (1, .daload) :: (2, .aload 0) :: (2, .iload 4) :: (0, .ldc 2) :: (0, .iadd) :: (1, .daload) :: (2, .ifCond .eq 1473) :: (0, .ldc 1) :: (2, .goto 1474) :: []
def s900_1473 : List Ins := (0, .ldc 0) :: (2, .jsr 1474) :: []
def s900_1478 : List Ins := (2, .istore 5) :: (2, .aload 2) :: (2, .aload 0) :: (2, .iload 4) :: (0, .ldc 1) :: (0, .iadd) :: (1, .daload) :: (2, .aload 0) :: (2, .iload 4) :: (0, .ldc 2) :: (0, .iadd) :: (1, .daload) :: (2, .ifCond .eq 1500) :: (0, .ldc 1) :: (2, .goto 1501) :: []
def s900_1474 : List Ins := (2, .aload 3) :: (2, .invokestatic 126980) :: s900_1478
def s900_1500 : List Ins := (0, .ldc 0) :: (2, .jsr 1501) :: []
def s900_1510 : List Ins := (2, .iload 5) :: (2, .if_icmp .eq 1517) :: (0, .ldc 0) :: (2, .freturn) :: []
def s900_1504 : List Ins := (2, .lstore 6) :: (2, .aload 2) :: (2, .invokevirtual 66257) :: s900_1510
def s900_1501 : List Ins := (2, .invokevirtual 103123) :: s900_1504
def s900_1517 : List Ins := (2, .iload 5) :: (2, .ifCond .ne 1533) :: (2, .aload 3) :: (0, .ldc 0) :: (1, .laload) :: (2, .lload 6) :: (0, .lcmp) :: (2, .ifCond .eq 1533) :: (0, .ldc 0) :: (2, .freturn) :: []
def s900_1533 : List Ins := (2, .goto 2686) :: []
def s900_1565 : List Ins := (2, .iload 5) :: (2, .if_icmp .eq 1572) :: (0, .ldc 0) :: (2, .freturn) :: []
def s900_1559 : List Ins := (2, .lstore 6) :: (2, .aload 2) :: (2, .invokevirtual 66257) :: s900_1565
def s900_1547 : List Ins := (2, .istore 5) :: (2, .aload 2) :: (2, .aload 0) :: (2, .iload 4) :: (0, .ldc 1) :: (0, .iadd) :: (1, .daload) :: (2, .invokevirtual 103634) :: s900_1559
def s900_1536 : List Ins := (2, .aload 1) :: (2, .aload 0) :: (2, .iload 4) :: (0, .ldc 1) :: (0, .iadd) :: (1, .daload) :: (2, .aload 3) :: (2, .invokestatic 127491) :: s900_1547
def s900_1572 : List Ins := (2, .iload 5) :: (2, .ifCond .ne 1588) :: (2, .aload 3) :: (0, .ldc 0) :: (1, .laload) :: (2, .lload 6) :: (0, .lcmp) :: (2, .ifCond .eq 1588) :: (0, .ldc 0) :: (2, .freturn) :: []
def s900_1588 : List Ins := (2, .goto 2686) :: []
def s900_1644 : List Ins := (2, .iload 5) :: (2, .if_icmp .eq 1651) :: (0, .ldc 0) :: (2, .freturn) :: []
def s900_1638 : List Ins := (2, .istore 6) :: (2, .aload 2) :: (2, .invokevirtual 66257) :: s900_1644
def s900_1614 : List Ins := (2, .istore 5) :: (2, .aload 2) :: (2, .aload 0) :: (2, .iload 4) :: (0, .ldc 1) :: (0, .iadd) :: (1, .daload) :: (2, .aload 0) :: (2, .iload 4) :: (0, .ldc 2) :: (0, .iadd) :: (1, .daload) :: (2, .aload 0) :: (2, .iload 4) :: (0, .ldc 3) :: (0, .iadd) :: (1, .daload) :: (2, .invokevirtual 104660) :: s900_1638
def s900_1591 : List Ins := (2, .aload 1) :: (2, .aload 0) :: (2, .iload 4) :: (0, .ldc 1) :: (0, .iadd) :: (1, .daload) :: (2, .aload 0) :: (2, .iload 4) :: (0, .ldc 2) :: (0, .iadd) :: (1, .daload) :: (2, .aload 0) :: (2, .iload 4) :: (0, .ldc 3) :: (0, .iadd) :: (1, .daload) :: (2, .aload 3) :: (2, .invokestatic 128005) :: s900_1614
def s900_1651 : List Ins := (2, .iload 5) :: (2, .ifCond .ne 1668) :: (2, .aload 3) :: (0, .ldc 0) :: (1, .laload) :: (2, .iload 6) :: (0, .i2l) :: (0, .lcmp) :: (2, .ifCond .eq 1668) :: (0, .ldc 0) :: (2, .freturn) :: []
def s900_1668 : List Ins := (2, .goto 2686) :: []
def s900_1724 : List Ins := (2, .iload 5) :: (2, .if_icmp .eq 1731) :: (0, .ldc 0) :: (2, .freturn) :: []
def s900_1718 : List Ins := (2, .istore 6) :: (2, .aload 2) :: (2, .invokevirtual 66257) :: s900_1724
def s900_1694 : List Ins := (2, .istore 5) :: (2, .aload 2) :: (2, .aload 0) :: (2, .iload 4) :: (0, .ldc 1) :: (0, .iadd) :: (1, .daload) :: (2, .aload 0) :: (2, .iload 4) :: (0, .ldc 2) :: (0, .iadd) :: (1, .daload) :: (2, .aload 0) :: (2, .iload 4) :: (0, .ldc 3) :: (0, .iadd) :: (1, .daload) :: (2, .invokevirtual 106708) :: s900_1718
def s900_1671 : List Ins := (2, .aload 1) :: (2, .aload 0) :: (2, .iload 4) :: (0, .ldc 1) :: (0, .iadd) :: (1, .daload) :: (2, .aload 0) :: (2, .iload 4) :: (0, .ldc 2) :: (0, .iadd) :: (1, .daload) :: (2, .aload 0) :: (2, .iload 4) :: (0, .ldc 3) :: (0, .iadd) :: (1, .daload) :: (2, .aload 3) :: (2, .invokestatic 128517) :: s900_1694
def s900_1731 : List Ins := (2, .iload 5) :: (2, .ifCond .ne 1748) :: (2, .aload 3) :: (0, .ldc 0) :: (1, .laload) :: (2, .iload 6) :: (0, .i2l) :: (0, .lcmp) :: (2, .ifCond .eq 1748) :: (0, .ldc 0) :: (2, .freturn) :: []
def s900_1748 : List Ins := (2, .goto 2686) :: []
def s900_1751 : List Ins := (2, .aload 1) :: (2, .aload 0) :: (2, .iload 4) :: (0, .ldc 1) :: (0, .iadd) :: (1, .daload) :: (2, .aload 0) :: (2, .iload 4) :: (0, .ldc 2) :: (0, .iadd) :: (1, .daload) :: (2, .aload 0) :: (2, .iload 4) :: (0, .ldc 3) :: (0, .iadd) :: (1, .daload) :: (2, .aload 0) :: (2, .iload 4) :: (0, .ldc 4) :: (0, .iadd) :: (1, .daload) :: (2, .ifCond .eq 1783) :: (0, .ldc 1) :: (2, .goto 1784) :: []
def s900_1783 : List Ins := (0, .ldc 0) :: (2, .jsr 1784) :: []
def s900_1788 : List Ins := (2, .istore 5) :: (2, .aload 2) :: (2, .aload 0) :: (2, .iload 4) :: (0, .ldc 1) :: (0, .iadd) :: (1, .daload) :: (2, .aload 0) :: (2, .iload 4) :: (0, .ldc 2) :: (0, .iadd) :: (1, .daload) :: (2, .aload 0) :: (2, .iload 4) :: (0, .ldc 3) :: (0, .iadd) :: (1, .daload) :: (2, .aload 0) :: (2, .iload 4) :: (0, .ldc 4) :: (0, .iadd) :: (1, .daload) :: (2, .ifCond .eq 1822) :: (0, .ldc 1) :: (2, .goto 1823) :: []
def s900_1784 : List Ins := (2, .aload 3) :: (2, .invokestatic 129030) :: s900_1788
def s900_1822 : List Ins := (0, .ldc 0) :: (2, .jsr 1823) :: []
def s900_1832 : List Ins := (2, .iload 5) :: (2, .if_icmp .eq 1839) :: (0, .ldc 0) :: (2, .freturn) :: []
def s900_1826 : List Ins := (2, .lstore 6) :: (2, .aload 2) :: (2, .invokevirtual 66257) :: s900_1832
def s900_1823 : List Ins := (2, .invokevirtual 107221) :: s900_1826
def s900_1839 : List Ins := (2, .iload 5) :: (2, .ifCond .ne 1855) :: (2, .aload 3) :: (0, .ldc 0) :: (1, .laload) :: (2, .lload 6) :: (0, .lcmp) :: (2, .ifCond .eq 1855) :: (0, .ldc 0) :: (2, .freturn) :: []
def s900_1855 : List Ins := (2, .goto 2686) :: []
def s900_1899 : List Ins := (2, .iload 5) :: (2, .if_icmp .eq 1906) :: (0, .ldc 0) :: (2, .freturn) :: []
def s900_1893 : List Ins := (2, .istore 6) :: (2, .aload 2) :: (2, .invokevirtual 66257) :: s900_1899
def s900_1875 : List Ins := (2, .istore 5) :: (2, .aload 2) :: (2, .aload 0) :: (2, .iload 4) :: (0, .ldc 1) :: (0, .iadd) :: (1, .daload) :: (2, .aload 0) :: (2, .iload 4) :: (0, .ldc 2) :: (0, .iadd) :: (1, .daload) :: (2, .invokevirtual 107731) :: s900_1893
def s900_1858 : List Ins := (2, .aload 1) :: (2, .aload 0) :: (2, .iload 4) :: (0, .ldc 1) :: (0, .iadd) :: (1, .daload) :: (2, .aload 0) :: (2, .iload 4) :: (0, .ldc 2) :: (0, .iadd) :: (1, .daload) :: (2, .aload 3) :: (2, .invokestatic 129540) :: s900_1875
def s900_1906 : List Ins := (2, .iload 5) :: (2, .ifCond .ne 1923) :: (2, .aload 3) :: (0, .ldc 0) :: (1, .laload) :: (2, .iload 6) :: (0, .i2l) :: (0, .lcmp) :: (2, .ifCond .eq 1923) :: (0, .ldc 0) :: (2, .freturn) :: []
def s900_1923 : List Ins := (2, .goto 2686) :: []
def s900_1955 : List Ins := (2, .iload 5) :: (2, .if_icmp .eq 1962) :: (0, .ldc 0) :: (2, .freturn) :: []
def s900_1949 : List Ins := (2, .istore 6) :: (2, .aload 2) :: (2, .invokevirtual 66257) :: s900_1955
def s900_1937 : List Ins := (2, .istore 5) :: (2, .aload 2) :: (2, .aload 0) :: (2, .iload 4) :: (0, .ldc 1) :: (0, .iadd) :: (1, .daload) :: (2, .invokevirtual 108242) :: s900_1949
def s900_1926 : List Ins := (2, .aload 1) :: (2, .aload 0) :: (2, .iload 4) :: (0, .ldc 1) :: (0, .iadd) :: (1, .daload) :: (2, .aload 3) :: (2, .invokestatic 130051) :: s900_1937
def s900_1962 : List Ins := (2, .iload 5) :: (2, .ifCond .ne 1979) :: (2, .aload 3) :: (0, .ldc 0) :: (1, .laload) :: (2, .iload 6) :: (0, .i2l) :: (0, .lcmp) :: (2, .ifCond .eq 1979) :: (0, .ldc 0) :: (2, .freturn) :: []
def s900_1979 : List Ins := (2, .goto 2686) :: []
def s900_1990 : List Ins := (2, .if_icmp .eq 2686) :: (0, .ldc 0) :: (2, .freturn) :: []
def s900_1986 : List Ins := (2, .aload 2) :: (2, .invokevirtual 108753) :: s900_1990
def s900_1982 : List Ins := (2, .aload 1) :: (2, .invokevirtual 52417) :: s900_1986
def s900_2036 : List Ins := (2, .iload 5) :: (2, .if_icmp .eq 2043) :: (0, .ldc 0) :: (2, .freturn) :: []
def s900_2030 : List Ins := (2, .lstore 6) :: (2, .aload 2) :: (2, .invokevirtual 66257) :: s900_2036
def s900_2012 : List Ins := (2, .istore 5) :: (2, .aload 2) :: (2, .aload 0) :: (2, .iload 4) :: (0, .ldc 1) :: (0, .iadd) :: (1, .daload) :: (2, .aload 0) :: (2, .iload 4) :: (0, .ldc 2) :: (0, .iadd) :: (1, .daload) :: (2, .invokevirtual 109267) :: s900_2030
def s900_1995 : List Ins := (2, .aload 1) :: (2, .aload 0) :: (2, .iload 4) :: (0, .ldc 1) :: (0, .iadd) :: (1, .daload) :: (2, .aload 0) :: (2, .iload 4) :: (0, .ldc 2) :: (0, .iadd) :: (1, .daload) :: (2, .aload 3) :: (2, .invokestatic 130564) :: s900_2012
def s900_2043 : List Ins := (2, .iload 5) :: (2, .ifCond .ne 2059) :: (2, .aload 3) :: (0, .ldc 0) :: (1, .laload) :: (2, .lload 6) :: (0, .lcmp) :: (2, .ifCond .eq 2059) :: (0, .ldc 0) :: (2, .freturn) :: []
def s900_2059 : List Ins := (2, .goto 2686) :: []
def s900_2115 : List Ins := (2, .iload 5) :: (2, .if_icmp .eq 2122) :: (0, .ldc 0) :: (2, .freturn) :: []
def s900_2109 : List Ins := (2, .istore 6) :: (2, .aload 2) :: (2, .invokevirtual 66257) :: s900_2115
def s900_2085 : List Ins := (2, .istore 5) :: (2, .aload 2) :: (2, .aload 0) :: (2, .iload 4) :: (0, .ldc 1) :: (0, .iadd) :: (1, .daload) :: (2, .aload 0) :: (2, .iload 4) :: (0, .ldc 2) :: (0, .iadd) :: (1, .daload) :: (2, .aload 0) :: (2, .iload 4) :: (0, .ldc 3) :: (0, .iadd) :: (1, .daload) :: (2, .invokevirtual 112852) :: s900_2109
def s900_2062 : List Ins := (2, .aload 1) :: (2, .aload 0) :: (2, .iload 4) :: (0, .ldc 1) :: (0, .iadd) :: (1, .daload) :: (2, .aload 0) :: (2, .iload 4) :: (0, .ldc 2) :: (0, .iadd) :: (1, .daload) :: (2, .aload 0) :: (2, .iload 4) :: (0, .ldc 3) :: (0, .iadd) :: (1, .daload) :: (2, .aload 3) :: (2, .invokestatic 131077) :: s900_2085
def s900_2122 : List Ins := (2, .iload 5) :: (2, .ifCond .ne 2139) :: (2, .aload 3) :: (0, .ldc 0) :: (1, .laload) :: (2, .iload 6) :: (0, .i2l) :: (0, .lcmp) :: (2, .ifCond .eq 2139) :: (0, .ldc 0) :: (2, .freturn) :: []
def s900_2139 : List Ins := (2, .goto 2686) :: []
def s900_2159 : List Ins := (2, .iload 5) :: (2, .if_icmp .eq 2166) :: (0, .ldc 0) :: (2, .freturn) :: []
def s900_2153 : List Ins := (2, .istore 6) :: (2, .aload 2) :: (2, .invokevirtual 66257) :: s900_2159
def s900_2147 : List Ins := (2, .istore 5) :: (2, .aload 2) :: (2, .invokevirtual 113361) :: s900_2153
def s900_2142 : List Ins := (2, .aload 1) :: (2, .aload 3) :: (2, .invokestatic 131586) :: s900_2147
def s900_2166 : List Ins := (2, .iload 5) :: (2, .ifCond .ne 2183) :: (2, .aload 3) :: (0, .ldc 0) :: (1, .laload) :: (2, .iload 6) :: (0, .i2l) :: (0, .lcmp) :: (2, .ifCond .eq 2183) :: (0, .ldc 0) :: (2, .freturn) :: []
def s900_2183 : List Ins := (2, .goto 2686) :: []
def s900_2186 : List Ins := (2, .aload 1) :: (2, .aload 0) :: (2, .iload 4) :: (0, .ldc 1) :: (0, .iadd) :: (1, .daload) :: (2, .aload 0) :: (2, .iload 4) :: (0, .ldc 2) :: (0, .iadd) :: (1, .daload) :: (2, .aload 0) :: (2, .iload 4) :: (0, .ldc 3) :: (0, .iadd) :: (1, .daload) :: (2, .aload 0) :: (2, .iload 4) :: (0, .ldc 4) :: (0, .iadd) :: (1, .daload) :: (2, .ifCond .eq 2218) :: (0, .ldc 1) :: (2, .goto 2219) :: []
def s900_2218 : List Ins := (0, .ldc 0) :: (2, .jsr 2219) :: []
def s900_2229 : List Ins := (2, .istore 5) :: (2, .aload 2) :: (2, .aload 0) :: (2, .iload 4) :: (0, .ldc 1) :: (0, .iadd) :: (1, .daload) :: (2, .aload 0) :: (2, .iload 4) :: (0, .ldc 2) :: (0, .iadd) :: (1, .daload) :: (2, .aload 0) :: (2, .iload 4) :: (0, .ldc 3) :: (0, .iadd) :: (1, .daload) :: (2, .aload 0) :: (2, .iload 4) :: (0, .ldc 4) :: (0, .iadd) :: (1, .daload) :: (2, .ifCond .eq 2263) :: (0, .ldc 1) :: (2, .goto 2264) :: []
def s900_2219 : List Ins := (2, .aload 0) :: (2, .iload 4) :: (0, .ldc 5) :: (0, .iadd) :: (1, .daload) :: (2, .aload 3) :: (2, .invokestatic 132103) :: s900_2229
def s900_2263 : List Ins := (0, .ldc 0) :: (2, .jsr 2264) :: []
def s900_2279 : List Ins := (2, .iload 5) :: (2, .if_icmp .eq 2286) :: (0, .ldc 0) :: (2, .freturn) :: []
def s900_2273 : List Ins := (2, .istore 6) :: (2, .aload 2) :: (2, .invokevirtual 66257) :: s900_2279
def s900_2264 : List Ins := (2, .aload 0) :: (2, .iload 4) :: (0, .ldc 5) :: (0, .iadd) :: (1, .daload) :: (2, .invokevirtual 114390) :: s900_2273
def s900_2286 : List Ins := (2, .iload 5) :: (2, .ifCond .ne 2303) :: (2, .aload 3) :: (0, .ldc 0) :: (1, .laload) :: (2, .iload 6) :: (0, .i2l) :: (0, .lcmp) :: (2, .ifCond .eq 2303) :: (0, .ldc 0) :: (2, .freturn) :: []
def s900_2303 : List Ins := (2, .goto 2686) :: []
def s900_2359 : List Ins := (2, .iload 5) :: (2, .if_icmp .eq 2366) :: (0, .ldc 0) :: (2, .freturn) :: []
def s900_2353 : List Ins := (2, .lstore 6) :: (2, .aload 2) :: (2, .invokevirtual 66257) :: s900_2359
def s900_2329 : List Ins := (2, .istore 5) :: (2, .aload 2) :: (2, .aload 0) :: (2, .iload 4) :: (0, .ldc 1) :: (0, .iadd) :: (1, .daload) :: (2, .aload 0) :: (2, .iload 4) :: (0, .ldc 2) :: (0, .iadd) :: (1, .daload) :: (2, .aload 0) :: (2, .iload 4) :: (0, .ldc 3) :: (0, .iadd) :: (1, .daload) :: (2, .invokevirtual 110292) :: s900_2353
def s900_2306 : List Ins := (2, .aload 1) :: (2, .aload 0) :: (2, .iload 4) :: (0, .ldc 1) :: (0, .iadd) :: (1, .daload) :: (2, .aload 0) :: (2, .iload 4) :: (0, .ldc 2) :: (0, .iadd) :: (1, .daload) :: (2, .aload 0) :: (2, .iload 4) :: (0, .ldc 3) :: (0, .iadd) :: (1, .daload) :: (2, .aload 3) :: (2, .invokestatic 132613) :: s900_2329
def s900_2366 : List Ins := (2, .iload 5) :: (2, .ifCond .ne 2382) :: (2, .aload 3) :: (0, .ldc 0) :: (1, .laload) :: (2, .lload 6) :: (0, .lcmp) :: (2, .ifCond .eq 2382) :: (0, .ldc 0) :: (2, .freturn) :: []
def s900_2382 : List Ins := (2, .goto 2686) :: []
def s900_2426 : List Ins := (2, .iload 5) :: (2, .if_icmp .eq 2433) :: (0, .ldc 0) :: (2, .freturn) :: []
def s900_2420 : List Ins := (2, .istore 6) :: (2, .aload 2) :: (2, .invokevirtual 66257) :: s900_2426
def s900_2402 : List Ins := (2, .istore 5) :: (2, .aload 2) :: (2, .aload 0) :: (2, .iload 4) :: (0, .ldc 1) :: (0, .iadd) :: (1, .daload) :: (2, .aload 0) :: (2, .iload 4) :: (0, .ldc 2) :: (0, .iadd) :: (1, .daload) :: (2, .invokevirtual 110803) :: s900_2420
def s900_2385 : List Ins := (2, .aload 1) :: (2, .aload 0) :: (2, .iload 4) :: (0, .ldc 1) :: (0, .iadd) :: (1, .daload) :: (2, .aload 0) :: (2, .iload 4) :: (0, .ldc 2) :: (0, .iadd) :: (1, .daload) :: (2, .aload 3) :: (2, .invokestatic 133124) :: s900_2402
def s900_2433 : List Ins := (2, .iload 5) :: (2, .ifCond .ne 2450) :: (2, .aload 3) :: (0, .ldc 0) :: (1, .laload) :: (2, .iload 6) :: (0, .i2l) :: (0, .lcmp) :: (2, .ifCond .eq 2450) :: (0, .ldc 0) :: (2, .freturn) :: []
def s900_2450 : List Ins := (2, .goto 2686) :: []
def s900_2494 : List Ins := (2, .iload 5) :: (2, .if_icmp .eq 2501) :: (0, .ldc 0) :: (2, .freturn) :: []
def s900_2488 : List Ins := (2, .istore 6) :: (2, .aload 2) :: (2, .invokevirtual 66257) :: s900_2494
def s900_2470 : List Ins := (2, .istore 5) :: (2, .aload 2) :: (2, .aload 0) :: (2, .iload 4) :: (0, .ldc 1) :: (0, .iadd) :: (1, .daload) :: (2, .aload 0) :: (2, .iload 4) :: (0, .ldc 2) :: (0, .iadd) :: (1, .daload) :: (2, .invokevirtual 111315) :: s900_2488
def s900_2453 : List Ins := (2, .aload 1) :: (2, .aload 0) :: (2, .iload 4) :: (0, .ldc 1) :: (0, .iadd) :: (1, .daload) :: (2, .aload 0) :: (2, .iload 4) :: (0, .ldc 2) :: (0, .iadd) :: (1, .daload) :: (2, .aload 3) :: (2, .invokestatic 133636) :: s900_2470
def s900_2501 : List Ins := (2, .iload 5) :: (2, .ifCond .ne 2518) :: (2, .aload 3) :: (0, .ldc 0) :: (1, .laload) :: (2, .iload 6) :: (0, .i2l) :: (0, .lcmp) :: (2, .ifCond .eq 2518) :: (0, .ldc 0) :: (2, .freturn) :: []
def s900_2518 : List Ins := (2, .goto 2686) :: []
def s900_2550 : List Ins := (2, .iload 5) :: (2, .if_icmp .eq 2557) :: (0, .ldc 0) :: (2, .freturn) :: []
def s900_2544 : List Ins := (2, .istore 6) :: (2, .aload 2) :: (2, .invokevirtual 66257) :: s900_2550
def s900_2532 : List Ins := (2, .istore 5) :: (2, .aload 2) :: (2, .aload 0) :: (2, .iload 4) :: (0, .ldc 1) :: (0, .iadd) :: (1, .daload) :: (2, .invokevirtual 111826) :: s900_2544
def s900_2521 : List Ins := (2, .aload 1) :: (2, .aload 0) :: (2, .iload 4) :: (0, .ldc 1) :: (0, .iadd) :: (1, .daload) :: (2, .aload 3) :: (2, .invokestatic 134147) :: s900_2532
def s900_2557 : List Ins := (2, .iload 5) :: (2, .ifCond .ne 2574) :: (2, .aload 3) :: (0, .ldc 0) :: (1, .laload) :: (2, .iload 6) :: (0, .i2l) :: (0, .lcmp) :: (2, .ifCond .eq 2574) :: (0, .ldc 0) :: (2, .freturn) :: []
def s900_2574 : List Ins := (2, .goto 2686) :: []
def s900_2627 : List Ins := (2, .iload 5) :: (2, .if_icmp .eq 2634) :: (0, .ldc 0) :: (2, .freturn) :: []
def s900_2623 : List Ins := (2, .aload 2) :: (2, .invokevirtual 66257) :: s900_2627
def s900_2599 : List Ins := (2, .istore 5) :: (2, .aload 2) :: (2, .aload 0) :: (2, .iload 4) :: (0, .ldc 1) :: (0, .iadd) :: (1, .daload) :: (2, .aload 0) :: (2, .iload 4) :: (0, .ldc 2) :: (0, .iadd) :: (1, .daload) :: (2, .aload 0) :: (2, .iload 4) :: (0, .ldc 3) :: (0, .iadd) :: (1, .daload) :: (2, .invokevirtual 112340) :: s900_2623
def s900_2577 : List Ins := (2, .aload 1) :: (2, .aload 0) :: (2, .iload 4) :: (0, .ldc 1) :: (0, .iadd) :: (1, .daload) :: (2, .aload 0) :: (2, .iload 4) :: (0, .ldc 2) :: (0, .iadd) :: (1, .daload) :: (2, .aload 0) :: (2, .iload 4) :: (0, .ldc 3) :: (0, .iadd) :: (1, .daload) :: (2, .invokestatic 134660) :: s900_2599
def s900_2634 : List Ins := (2, .goto 2686) :: []
def s900_2645 : List Ins := (2, .goto 2686) :: []
def s900_2641 : List Ins := (2, .aload 2) :: (2, .invokevirtual 67793) :: s900_2645
def s900_2637 : List Ins := (2, .aload 1) :: (2, .invokevirtual 47809) :: s900_2641
def s900_2656 : List Ins := (2, .if_icmp .eq 2686) :: (0, .ldc 0) :: (2, .freturn) :: []
def s900_2652 : List Ins := (2, .aload 2) :: (2, .invokevirtual 68305) :: s900_2656
def s900_2648 : List Ins := (2, .aload 1) :: (2, .invokevirtual 48321) :: s900_2652
def s900_2681 : List Ins := (2, .if_icmp .eq 2686) :: (0, .ldc 0) :: (2, .freturn) :: []
def s900_2671 : List Ins := (2, .aload 2) :: (2, .aload 0) :: (2, .iload 4) :: (0, .ldc 1) :: (0, .iadd) :: (1, .daload) :: (2, .invokevirtual 114898) :: s900_2681
def s900_2661 : List Ins := (2, .aload 1) :: (2, .aload 0) :: (2, .iload 4) :: (0, .ldc 1) :: (0, .iadd) :: (1, .daload) :: (2, .invokevirtual 48834) :: s900_2671
def s900_2686 : List Ins := (2, .iinc 4 6) :: (2, .goto 23) :: []
def s900_2692 : List Ins := (0, .ldc 1) :: (2, .freturn) :: []
def tx_900 : Tx := [(23, 31, s900_23), (208, 31, s900_208), (281, 31, s900_281), (306, 31, s900_306), (351, 31, s900_351), (354, 31, s900_354), (423, 31, s900_423), (426, 31, s900_426), (471, 31, s900_471), (474, 31, s900_474), (546, 127, s900_546), (563, 31, s900_563), (566, 31, s900_566), (650, 127, s900_650), (667, 31, s900_667), (670, 31, s900_670), (706, 127, s900_706), (723, 31, s900_723), (724, 31, s900_724), (730, 31, s900_730), (733, 31, s900_733), (757, 127, s900_757), (774, 31, s900_774), (777, 31, s900_777), (790, 31, s900_790), (838, 127, s900_838), (855, 31, s900_855), (856, 31, s900_856), (862, 31, s900_862), (865, 31, s900_865), (891, 31, s900_891), (892, 31, s900_892), (905, 31, s900_905), (906, 31, s900_906), (938, 63, s900_938), (939, 63, s900_939), (952, 63, s900_952), (953, 63, s900_953), (969, 127, s900_969), (986, 31, s900_986), (989, 31, s900_989), (1015, 31, s900_1015), (1016, 31, s900_1016), (1048, 63, s900_1048), (1049, 63, s900_1049), (1065, 127, s900_1065), (1082, 31, s900_1082), (1085, 31, s900_1085), (1105, 31, s900_1105), (1106, 31, s900_1106), (1138, 63, s900_1138), (1139, 63, s900_1139), (1161, 127, s900_1161), (1178, 31, s900_1178), (1181, 31, s900_1181), (1207, 31, s900_1207), (1208, 31, s900_1208), (1221, 31, s900_1221), (1222, 31, s900_1222), (1254, 63, s900_1254), (1255, 63, s900_1255), (1268, 63, s900_1268), (1269, 63, s900_1269), (1285, 127, s900_1285), (1301, 31, s900_1301), (1304, 31, s900_1304), (1317, 31, s900_1317), (1365, 127, s900_1365), (1382, 31, s900_1382), (1385, 31, s900_1385), (1433, 127, s900_1433), (1450, 31, s900_1450), (1453, 31, s900_1453), (1473, 31, s900_1473), (1474, 31, s900_1474), (1500, 63, s900_1500), (1501, 63, s900_1501), (1517, 127, s900_1517), (1533, 31, s900_1533), (1536, 31, s900_1536), (1572, 127, s900_1572), (1588, 31, s900_1588), (1591, 31, s900_1591), (1651, 127, s900_1651), (1668, 31, s900_1668), (1671, 31, s900_1671), (1731, 127, s900_1731), (1748, 31, s900_1748), (1751, 31, s900_1751), (1783, 31, s900_1783), (1784, 31, s900_1784), (1822, 63, s900_1822), (1823, 63, s900_1823), (1839, 127, s900_1839), (1855, 31, s900_1855), (1858, 31, s900_1858), (1906, 127, s900_1906), (1923, 31, s900_1923), (1926, 31, s900_1926), (1962, 127, s900_1962), (1979, 31, s900_1979), (1982, 31, s900_1982), (1995, 31, s900_1995), (2043, 127, s900_2043), (2059, 31, s900_2059), (2062, 31, s900_2062), (2122, 127, s900_2122), (2139, 31, s900_2139), (2142, 31, s900_2142), (2166, 127, s900_2166), (2183, 31, s900_2183), (2186, 31, s900_2186), (2218, 31, s900_2218), (2219, 31, s900_2219), (2263, 63, s900_2263), (2264, 63, s900_2264), (2286, 127, s900_2286), (2303, 31, s900_2303), (2306, 31, s900_2306), (2366, 127, s900_2366), (2382, 31, s900_2382), (2385, 31, s900_2385), (2433, 127, s900_2433), (2450, 31, s900_2450), (2453, 31, s900_2453), (2501, 127, s900_2501), (2518, 31, s900_2518), (2521, 31, s900_2521), (2557, 127, s900_2557), (2574, 31, s900_2574), (2577, 31, s900_2577), (2634, 31, s900_2634), (2637, 31, s900_2637), (2648, 31, s900_2648), (2661, 31, s900_2661), (2686, 31, s900_2686), (2692, 0, s900_2692)]

def txOf (n : Nat) : Tx := (cond (Nat.blt n 132) (cond (Nat.blt n 66) (cond (Nat.blt n 33) (cond (Nat.blt n 16) (cond (Nat.blt n 8) (cond (Nat.blt n 4) (cond (Nat.blt n 2) (cond (Nat.blt n 1) tx_0 tx_1) (cond (Nat.blt n 3) tx_2 tx_3)) (cond (Nat.blt n 6) (cond (Nat.blt n 5) tx_4 tx_5) (cond (Nat.blt n 7) tx_6 tx_7))) (cond (Nat.blt n 12) (cond (Nat.blt n 10) (cond (Nat.blt n 9) tx_8 tx_9) (cond (Nat.blt n 11) tx_10 tx_11)) (cond (Nat.blt n 14) (cond (Nat.blt n 13) tx_12 tx_13) (cond (Nat.blt n 15) tx_14 tx_15)))) (cond (Nat.blt n 24) (cond (Nat.blt n 20) (cond (Nat.blt n 18) (cond (Nat.blt n 17) tx_16 tx_17) (cond (Nat.blt n 19) tx_18 tx_19)) (cond (Nat.blt n 22) (cond (Nat.blt n 21) tx_20 tx_21) (cond (Nat.blt n 23) tx_22 tx_23))) (cond (Nat.blt n 28) (cond (Nat.blt n 26) (cond (Nat.blt n 25) tx_24 tx_25) (cond (Nat.blt n 27) tx_26 tx_27)) (cond (Nat.blt n 30) (cond (Nat.blt n 29) tx_28 tx_29) (cond (Nat.blt n 31) tx_30 (cond (Nat.blt n 32) tx_31 tx_32)))))) (cond (Nat.blt n 49) (cond (Nat.blt n 41) (cond (Nat.blt n 37) (cond (Nat.blt n 35) (cond (Nat.blt n 34) tx_33 tx_34) (cond (Nat.blt n 36) tx_35 tx_36)) (cond (Nat.blt n 39) (cond (Nat.blt n 38) tx_37 tx_38) (cond (Nat.blt n 40) tx_39 tx_40))) (cond (Nat.blt n 45) (cond (Nat.blt n 43) (cond (Nat.blt n 42) tx_41 tx_42) (cond (Nat.blt n 44) tx_43 tx_44)) (cond (Nat.blt n 47) (cond (Nat.blt n 46) tx_45 tx_46) (cond (Nat.blt n 48) tx_47 tx_48)))) (cond (Nat.blt n 57) (cond (Nat.blt n 53) (cond (Nat.blt n 51) (cond (Nat.blt n 50) tx_49 tx_50) (cond (Nat.blt n 52) tx_51 tx_52)) (cond (Nat.blt n 55) (cond (Nat.blt n 54) tx_53 tx_54) (cond (Nat.blt n 56) tx_55 tx_56))) (cond (Nat.blt n 61) (cond (Nat.blt n 59) (cond (Nat.blt n 58) tx_57 tx_58) (cond (Nat.blt n 60) tx_59 tx_60)) (cond (Nat.blt n 63) (cond (Nat.blt n 62) tx_61 tx_62) (cond (Nat.blt n 64) tx_63 (cond (Nat.blt n 65) tx_64 tx_65))))))) (cond (Nat.blt n 99) (cond (Nat.blt n 82) (cond (Nat.blt n 74) (cond (Nat.blt n 70) (cond (Nat.blt n 68) (cond (Nat.blt n 67) tx_66 tx_67) (cond (Nat.blt n 69) tx_68 tx_69)) (cond (Nat.blt n 72) (cond (Nat.blt n 71) tx_70 tx_71) (cond (Nat.blt n 73) tx_72 tx_73))) (cond (Nat.blt n 78) (cond (Nat.blt n 76) (cond (Nat.blt n 75) tx_74 tx_75) (cond (Nat.blt n 77) tx_76 tx_77)) (cond (Nat.blt n 80) (cond (Nat.blt n 79) tx_78 tx_79) (cond (Nat.blt n 81) tx_80 tx_81)))) (cond (Nat.blt n 90) (cond (Nat.blt n 86) (cond (Nat.blt n 84) (cond (Nat.blt n 83) tx_82 tx_83) (cond (Nat.blt n 85) tx_84 tx_85)) (cond (Nat.blt n 88) (cond (Nat.blt n 87) tx_86 tx_87) (cond (Nat.blt n 89) tx_88 tx_89))) (cond (Nat.blt n 94) (cond (Nat.blt n 92) (cond (Nat.blt n 91) tx_90 tx_91) (cond (Nat.blt n 93) tx_92 tx_93)) (cond (Nat.blt n 96) (cond (Nat.blt n 95) tx_94 tx_95) (cond (Nat.blt n 97) tx_96 (cond (Nat.blt n 98) tx_97 tx_98)))))) (cond (Nat.blt n 115) (cond (Nat.blt n 107) (cond (Nat.blt n 103) (cond (Nat.blt n 101) (cond (Nat.blt n 100) tx_99 tx_100) (cond (Nat.blt n 102) tx_101 tx_102)) (cond (Nat.blt n 105) (cond (Nat.blt n 104) tx_103 tx_104) (cond (Nat.blt n 106) tx_105 tx_106))) (cond (Nat.blt n 111) (cond (Nat.blt n 109) (cond (Nat.blt n 108) tx_107 tx_108) (cond (Nat.blt n 110) tx_109 tx_110)) (cond (Nat.blt n 113) (cond (Nat.blt n 112) tx_111 tx_112) (cond (Nat.blt n 114) tx_113 tx_114)))) (cond (Nat.blt n 123) (cond (Nat.blt n 119) (cond (Nat.blt n 117) (cond (Nat.blt n 116) tx_115 tx_116) (cond (Nat.blt n 118) tx_117 tx_118)) (cond (Nat.blt n 121) (cond (Nat.blt n 120) tx_119 tx_120) (cond (Nat.blt n 122) tx_121 tx_122))) (cond (Nat.blt n 127) (cond (Nat.blt n 125) (cond (Nat.blt n 124) tx_123 tx_124) (cond (Nat.blt n 126) tx_125 tx_126)) (cond (Nat.blt n 129) (cond (Nat.blt n 128) tx_127 tx_128) (cond (Nat.blt n 130) tx_129 (cond (Nat.blt n 131) tx_130 tx_131)))))))) (cond (Nat.blt n 198) (cond (Nat.blt n 165) (cond (Nat.blt n 148) (cond (Nat.blt n 140) (cond (Nat.blt n 136) (cond (Nat.blt n 134) (cond (Nat.blt n 133) tx_132 tx_133) (cond (Nat.blt n 135) tx_134 tx_135)) (cond (Nat.blt n 138) (cond (Nat.blt n 137) tx_136 tx_137) (cond (Nat.blt n 139) tx_138 tx_139))) (cond (Nat.blt n 144) (cond (Nat.blt n 142) (cond (Nat.blt n 141) tx_140 tx_141) (cond (Nat.blt n 143) tx_142 tx_143)) (cond (Nat.blt n 146) (cond (Nat.blt n 145) tx_144 tx_145) (cond (Nat.blt n 147) tx_146 tx_147)))) (cond (Nat.blt n 156) (cond (Nat.blt n 152) (cond (Nat.blt n 150) (cond (Nat.blt n 149) tx_148 tx_149) (cond (Nat.blt n 151) tx_150 tx_151)) (cond (Nat.blt n 154) (cond (Nat.blt n 153) tx_152 tx_153) (cond (Nat.blt n 155) tx_154 tx_155))) (cond (Nat.blt n 160) (cond (Nat.blt n 158) (cond (Nat.blt n 157) tx_156 tx_157) (cond (Nat.blt n 159) tx_158 tx_159)) (cond (Nat.blt n 162) (cond (Nat.blt n 161) tx_160 tx_161) (cond (Nat.blt n 163) tx_162 (cond (Nat.blt n 164) tx_163 tx_164)))))) (cond (Nat.blt n 181) (cond (Nat.blt n 173) (cond (Nat.blt n 169) (cond (Nat.blt n 167) (cond (Nat.blt n 166) tx_165 tx_166) (cond (Nat.blt n 168) tx_167 tx_168)) (cond (Nat.blt n 171) (cond (Nat.blt n 170) tx_169 tx_170) (cond (Nat.blt n 172) tx_171 tx_172))) (cond (Nat.blt n 177) (cond (Nat.blt n 175) (cond (Nat.blt n 174) tx_173 tx_174) (cond (Nat.blt n 176) tx_175 tx_176)) (cond (Nat.blt n 179) (cond (Nat.blt n 178) tx_177 tx_178) (cond (Nat.blt n 180) tx_179 tx_180)))) (cond (Nat.blt n 189) (cond (Nat.blt n 185) (cond (Nat.blt n 183) (cond (Nat.blt n 182) tx_181 tx_182) (cond (Nat.blt n 184) tx_183 tx_184)) (cond (Nat.blt n 187) (cond (Nat.blt n 186) tx_185 tx_186) (cond (Nat.blt n 188) tx_187 tx_188))) (cond (Nat.blt n 193) (cond (Nat.blt n 191) (cond (Nat.blt n 190) tx_189 tx_190) (cond (Nat.blt n 192) tx_191 tx_192)) (cond (Nat.blt n 195) (cond (Nat.blt n 194) tx_193 tx_194) (cond (Nat.blt n 196) tx_195 (cond (Nat.blt n 197) tx_196 tx_197))))))) (cond (Nat.blt n 231) (cond (Nat.blt n 214) (cond (Nat.blt n 206) (cond (Nat.blt n 202) (cond (Nat.blt n 200) (cond (Nat.blt n 199) tx_198 tx_199) (cond (Nat.blt n 201) tx_200 tx_201)) (cond (Nat.blt n 204) (cond (Nat.blt n 203) tx_202 tx_203) (cond (Nat.blt n 205) tx_204 tx_205))) (cond (Nat.blt n 210) (cond (Nat.blt n 208) (cond (Nat.blt n 207) tx_206 tx_207) (cond (Nat.blt n 209) tx_208 tx_209)) (cond (Nat.blt n 212) (cond (Nat.blt n 211) tx_210 tx_211) (cond (Nat.blt n 213) tx_212 tx_213)))) (cond (Nat.blt n 222) (cond (Nat.blt n 218) (cond (Nat.blt n 216) (cond (Nat.blt n 215) tx_214 tx_215) (cond (Nat.blt n 217) tx_216 tx_217)) (cond (Nat.blt n 220) (cond (Nat.blt n 219) tx_218 tx_219) (cond (Nat.blt n 221) tx_220 tx_221))) (cond (Nat.blt n 226) (cond (Nat.blt n 224) (cond (Nat.blt n 223) tx_222 tx_223) (cond (Nat.blt n 225) tx_224 tx_225)) (cond (Nat.blt n 228) (cond (Nat.blt n 227) tx_226 tx_227) (cond (Nat.blt n 229) tx_228 (cond (Nat.blt n 230) tx_229 tx_230)))))) (cond (Nat.blt n 247) (cond (Nat.blt n 239) (cond (Nat.blt n 235) (cond (Nat.blt n 233) (cond (Nat.blt n 232) tx_231 tx_232) (cond (Nat.blt n 234) tx_233 tx_234)) (cond (Nat.blt n 237) (cond (Nat.blt n 236) tx_235 tx_236) (cond (Nat.blt n 238) tx_237 tx_238))) (cond (Nat.blt n 243) (cond (Nat.blt n 241) (cond (Nat.blt n 240) tx_239 tx_240) (cond (Nat.blt n 242) tx_241 tx_242)) (cond (Nat.blt n 245) (cond (Nat.blt n 244) tx_243 tx_244) (cond (Nat.blt n 246) tx_245 tx_246)))) (cond (Nat.blt n 255) (cond (Nat.blt n 251) (cond (Nat.blt n 249) (cond (Nat.blt n 248) tx_247 tx_248) (cond (Nat.blt n 250) tx_249 tx_250)) (cond (Nat.blt n 253) (cond (Nat.blt n 252) tx_251 tx_252) (cond (Nat.blt n 254) tx_253 tx_254))) (cond (Nat.blt n 259) (cond (Nat.blt n 257) (cond (Nat.blt n 256) tx_255 tx_256) (cond (Nat.blt n 258) tx_257 tx_258)) (cond (Nat.blt n 261) (cond (Nat.blt n 260) tx_259 tx_260) (cond (Nat.blt n 262) tx_261 (cond (Nat.blt n 263) tx_262 tx_263)))))))))
def mlOf (n : Nat) : Nat := (cond (Nat.blt n 132) (cond (Nat.blt n 66) (cond (Nat.blt n 33) (cond (Nat.blt n 16) (cond (Nat.blt n 8) (cond (Nat.blt n 4) (cond (Nat.blt n 2) (cond (Nat.blt n 1) 4 6) (cond (Nat.blt n 3) 6 8)) (cond (Nat.blt n 6) (cond (Nat.blt n 5) 8 4) (cond (Nat.blt n 7) 3 4))) (cond (Nat.blt n 12) (cond (Nat.blt n 10) (cond (Nat.blt n 9) 5 3) (cond (Nat.blt n 11) 3 8)) (cond (Nat.blt n 14) (cond (Nat.blt n 13) 10 5) (cond (Nat.blt n 15) 10 1)))) (cond (Nat.blt n 24) (cond (Nat.blt n 20) (cond (Nat.blt n 18) (cond (Nat.blt n 17) 6 5) (cond (Nat.blt n 19) 12 3)) (cond (Nat.blt n 22) (cond (Nat.blt n 21) 1 5) (cond (Nat.blt n 23) 3 5))) (cond (Nat.blt n 28) (cond (Nat.blt n 26) (cond (Nat.blt n 25) 3 6) (cond (Nat.blt n 27) 7 5)) (cond (Nat.blt n 30) (cond (Nat.blt n 29) 5 5) (cond (Nat.blt n 31) 2 (cond (Nat.blt n 32) 4 1)))))) (cond (Nat.blt n 49) (cond (Nat.blt n 41) (cond (Nat.blt n 37) (cond (Nat.blt n 35) (cond (Nat.blt n 34) 7 2) (cond (Nat.blt n 36) 1 1)) (cond (Nat.blt n 39) (cond (Nat.blt n 38) 6 4) (cond (Nat.blt n 40) 6 6))) (cond (Nat.blt n 45) (cond (Nat.blt n 43) (cond (Nat.blt n 42) 7 8) (cond (Nat.blt n 44) 3 4)) (cond (Nat.blt n 47) (cond (Nat.blt n 46) 5 4) (cond (Nat.blt n 48) 2 6)))) (cond (Nat.blt n 57) (cond (Nat.blt n 53) (cond (Nat.blt n 51) (cond (Nat.blt n 50) 7 2) (cond (Nat.blt n 52) 5 1)) (cond (Nat.blt n 55) (cond (Nat.blt n 54) 3 7) (cond (Nat.blt n 56) 4 4))) (cond (Nat.blt n 61) (cond (Nat.blt n 59) (cond (Nat.blt n 58) 5 3) (cond (Nat.blt n 60) 4 2)) (cond (Nat.blt n 63) (cond (Nat.blt n 62) 5 2) (cond (Nat.blt n 64) 4 (cond (Nat.blt n 65) 6 4))))))) (cond (Nat.blt n 99) (cond (Nat.blt n 82) (cond (Nat.blt n 74) (cond (Nat.blt n 70) (cond (Nat.blt n 68) (cond (Nat.blt n 67) 11 3) (cond (Nat.blt n 69) 3 4)) (cond (Nat.blt n 72) (cond (Nat.blt n 71) 3 3) (cond (Nat.blt n 73) 3 4))) (cond (Nat.blt n 78) (cond (Nat.blt n 76) (cond (Nat.blt n 75) 7 3) (cond (Nat.blt n 77) 3 2)) (cond (Nat.blt n 80) (cond (Nat.blt n 79) 1 6) (cond (Nat.blt n 81) 2 3)))) (cond (Nat.blt n 90) (cond (Nat.blt n 86) (cond (Nat.blt n 84) (cond (Nat.blt n 83) 5 3) (cond (Nat.blt n 85) 5 6)) (cond (Nat.blt n 88) (cond (Nat.blt n 87) 3 1) (cond (Nat.blt n 89) 1 4))) (cond (Nat.blt n 94) (cond (Nat.blt n 92) (cond (Nat.blt n 91) 4 3) (cond (Nat.blt n 93) 4 1)) (cond (Nat.blt n 96) (cond (Nat.blt n 95) 1 2) (cond (Nat.blt n 97) 5 (cond (Nat.blt n 98) 4 4)))))) (cond (Nat.blt n 115) (cond (Nat.blt n 107) (cond (Nat.blt n 103) (cond (Nat.blt n 101) (cond (Nat.blt n 100) 6 1) (cond (Nat.blt n 102) 4 3)) (cond (Nat.blt n 105) (cond (Nat.blt n 104) 3 7) (cond (Nat.blt n 106) 3 3))) (cond (Nat.blt n 111) (cond (Nat.blt n 109) (cond (Nat.blt n 108) 6 4) (cond (Nat.blt n 110) 4 5)) (cond (Nat.blt n 113) (cond (Nat.blt n 112) 9 3) (cond (Nat.blt n 114) 4 9)))) (cond (Nat.blt n 123) (cond (Nat.blt n 119) (cond (Nat.blt n 117) (cond (Nat.blt n 116) 4 7) (cond (Nat.blt n 118) 2 2)) (cond (Nat.blt n 121) (cond (Nat.blt n 120) 2 3) (cond (Nat.blt n 122) 2 3))) (cond (Nat.blt n 127) (cond (Nat.blt n 125) (cond (Nat.blt n 124) 5 1) (cond (Nat.blt n 126) 7 11)) (cond (Nat.blt n 129) (cond (Nat.blt n 128) 25 10) (cond (Nat.blt n 130) 1 (cond (Nat.blt n 131) 3 3)))))))) (cond (Nat.blt n 198) (cond (Nat.blt n 165) (cond (Nat.blt n 148) (cond (Nat.blt n 140) (cond (Nat.blt n 136) (cond (Nat.blt n 134) (cond (Nat.blt n 133) 2 2) (cond (Nat.blt n 135) 1 1)) (cond (Nat.blt n 138) (cond (Nat.blt n 137) 1 2) (cond (Nat.blt n 139) 2 2))) (cond (Nat.blt n 144) (cond (Nat.blt n 142) (cond (Nat.blt n 141) 3 5) (cond (Nat.blt n 143) 3 6)) (cond (Nat.blt n 146) (cond (Nat.blt n 145) 7 2) (cond (Nat.blt n 147) 7 2)))) (cond (Nat.blt n 156) (cond (Nat.blt n 152) (cond (Nat.blt n 150) (cond (Nat.blt n 149) 1 3) (cond (Nat.blt n 151) 1 1)) (cond (Nat.blt n 154) (cond (Nat.blt n 153) 4 2) (cond (Nat.blt n 155) 2 3))) (cond (Nat.blt n 160) (cond (Nat.blt n 158) (cond (Nat.blt n 157) 1 1) (cond (Nat.blt n 159) 2 4)) (cond (Nat.blt n 162) (cond (Nat.blt n 161) 2 1) (cond (Nat.blt n 163) 2 (cond (Nat.blt n 164) 1 1)))))) (cond (Nat.blt n 181) (cond (Nat.blt n 173) (cond (Nat.blt n 169) (cond (Nat.blt n 167) (cond (Nat.blt n 166) 3 2) (cond (Nat.blt n 168) 4 4)) (cond (Nat.blt n 171) (cond (Nat.blt n 170) 13 6) (cond (Nat.blt n 172) 4 8))) (cond (Nat.blt n 177) (cond (Nat.blt n 175) (cond (Nat.blt n 174) 6 1) (cond (Nat.blt n 176) 4 3)) (cond (Nat.blt n 179) (cond (Nat.blt n 178) 3 5) (cond (Nat.blt n 180) 4 6)))) (cond (Nat.blt n 189) (cond (Nat.blt n 185) (cond (Nat.blt n 183) (cond (Nat.blt n 182) 10 25) (cond (Nat.blt n 184) 7 8)) (cond (Nat.blt n 187) (cond (Nat.blt n 186) 3 2) (cond (Nat.blt n 188) 7 3))) (cond (Nat.blt n 193) (cond (Nat.blt n 191) (cond (Nat.blt n 190) 4 6) (cond (Nat.blt n 192) 10 4)) (cond (Nat.blt n 195) (cond (Nat.blt n 194) 1 6) (cond (Nat.blt n 196) 4 (cond (Nat.blt n 197) 4 2))))))) (cond (Nat.blt n 231) (cond (Nat.blt n 214) (cond (Nat.blt n 206) (cond (Nat.blt n 202) (cond (Nat.blt n 200) (cond (Nat.blt n 199) 11 3) (cond (Nat.blt n 201) 3 3)) (cond (Nat.blt n 204) (cond (Nat.blt n 203) 10 1) (cond (Nat.blt n 205) 12 11))) (cond (Nat.blt n 210) (cond (Nat.blt n 208) (cond (Nat.blt n 207) 5 7) (cond (Nat.blt n 209) 4 5)) (cond (Nat.blt n 212) (cond (Nat.blt n 211) 7 4) (cond (Nat.blt n 213) 10 8)))) (cond (Nat.blt n 222) (cond (Nat.blt n 218) (cond (Nat.blt n 216) (cond (Nat.blt n 215) 9 4) (cond (Nat.blt n 217) 9 8)) (cond (Nat.blt n 220) (cond (Nat.blt n 219) 4 4) (cond (Nat.blt n 221) 5 3))) (cond (Nat.blt n 226) (cond (Nat.blt n 224) (cond (Nat.blt n 223) 4 18) (cond (Nat.blt n 225) 6 1)) (cond (Nat.blt n 228) (cond (Nat.blt n 227) 6 6) (cond (Nat.blt n 229) 1 (cond (Nat.blt n 230) 2 2)))))) (cond (Nat.blt n 247) (cond (Nat.blt n 239) (cond (Nat.blt n 235) (cond (Nat.blt n 233) (cond (Nat.blt n 232) 2 5) (cond (Nat.blt n 234) 4 4)) (cond (Nat.blt n 237) (cond (Nat.blt n 236) 6 4) (cond (Nat.blt n 238) 7 8))) (cond (Nat.blt n 243) (cond (Nat.blt n 241) (cond (Nat.blt n 240) 4 3) (cond (Nat.blt n 242) 5 7)) (cond (Nat.blt n 245) (cond (Nat.blt n 244) 6 6) (cond (Nat.blt n 246) 7 5)))) (cond (Nat.blt n 255) (cond (Nat.blt n 251) (cond (Nat.blt n 249) (cond (Nat.blt n 248) 5 5) (cond (Nat.blt n 250) 4 6)) (cond (Nat.blt n 253) (cond (Nat.blt n 252) 6 7) (cond (Nat.blt n 254) 5 4))) (cond (Nat.blt n 259) (cond (Nat.blt n 257) (cond (Nat.blt n 256) 5 6) (cond (Nat.blt n 258) 3 8)) (cond (Nat.blt n 261) (cond (Nat.blt n 260) 6 5) (cond (Nat.blt n 262) 5 (cond (Nat.blt n 263) 4 5)))))))))
/-- the wrappers of the law: one cell for what they catch -/
def gOf (n : Nat) : Nat := cond (Nat.ble 234 n) 1 0
