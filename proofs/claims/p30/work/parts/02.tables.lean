/-! TABLES OF THE PURE INTERPRETER, written by wip/whole/gen/out1.py out of what TURN printed -/
-- 0: X0.init
-- 1: X0.count
-- 2: X0.bit
-- 3: X0.write
-- 4: X0.tell
-- 5: X0.knownDownTo
-- 6: X0.measureReach
-- 7: X0.writeFirstPass
-- 8: X0.writeSecondPass
-- 9: X0.isLeftOut
-- 10: X0.hasDescendants
-- 11: X0.parentOf
-- 12: X0.put
-- 13: X0.putTelling
-- 14: X1.init
-- 15: X1.wavelet
-- 16: X1.use
-- 17: X1.divide
-- 18: X1.unite
-- 19: X1.steps
-- 20: X1.lift
-- 21: X1.oddChange
-- 22: X1.evenChange
-- 23: X2.init
-- 24: X2.get
-- 25: X2.set
-- 26: X2.magnitude
-- 27: X2.clear
-- 28: X2.copy
-- 29: X3.init
-- 30: X3.width
-- 31: X3.plant
-- 32: X3.exists
-- 33: X3.hasChildren
-- 34: X3.canBeSplit
-- 35: X3.giveChildren
-- 36: X3.takeChildren
-- 37: X3.isWithin
-- 38: X3.levelOf
-- 39: X3.widthOf
-- 40: X3.startOf
-- 41: X3.leafOver
-- 42: X3.leafCount
-- 43: X4.init
-- 44: X4.begin
-- 45: X4.setSample
-- 46: X4.sample
-- 47: X4.length
-- 48: X4.setWavelet
-- 49: X4.split
-- 50: X4.join
-- 51: X4.isNode
-- 52: X4.isLeaf
-- 53: X4.leaves
-- 54: X4.leafAt
-- 55: X4.costOf
-- 56: X4.chooseBasis
-- 57: X4.sizeOf
-- 58: X4.number
-- 59: X4.setNumber
-- 60: X4.filtered
-- 61: X4.hard
-- 62: X4.soft
-- 63: X4.risk
-- 64: X4.bestThreshold
-- 65: X4.isPyramid
-- 66: X4.bits
-- 67: X4.bitAt
-- 68: X4.broughtBack
-- 69: X4.errorWith
-- 70: X4.bitsFor
-- 71: X4.requireNode
-- 72: X4.requireLeaf
-- 73: X4.requireUnsplitRoot
-- 74: X4.requirePyramid
-- 75: X4.requirePlaceInSignal
-- 76: X4.requirePlaceBelow
-- 77: X4.requireThreshold
-- 78: X4.requireNoise
-- 79: X4.requireNotNegative
-- 80: X4.splitLeaf
-- 81: X4.joinBranch
-- 82: X4.uniteBranch
-- 83: X4.splitNodesBelow
-- 84: X4.joinWhereLeafCostsNoMore
-- 85: X4.branchCost
-- 86: X4.digits
-- 87: X4.gatherSamples
-- 88: X4.zeroUpTo
-- 89: X4.softRisk
-- 90: X4.encode
-- 91: X4.readFirst
-- 92: X4.bringBack
-- 93: X4.errorOfBrought
-- 94: L.cell
-- 95: L.at
-- 96: L.back
-- 97: L.covers
-- 98: L.splits
-- 99: L.signal
-- 100: L.law
def p_c0 : List (Nat × Instr) := [(0, .aload_n 0), (1, .invokespecial 5), (4, .aload_n 0), (5, .new 11), (8, .dup), (9, .invokespecial 13), (12, .putfield 14), (15, .aload_n 0), (16, .new 11), (19, .dup), (20, .invokespecial 13), (23, .putfield 18), (26, .aload_n 0), (27, .sipush 4038), (30, .newarray .byte), (32, .putfield 21), (35, .aload_n 0), (36, .sipush 4038), (39, .newarray .byte), (41, .putfield 25), (44, .aload_n 0), (45, .sipush 4038), (48, .newarray .byte), (50, .putfield 28), (53, .return_)]
def p_c1 : List (Nat × Instr) := []
def p_c2 : List (Nat × Instr) := []
def p_c3 : List (Nat × Instr) := []
def p_c4 : List (Nat × Instr) := []
def p_c5 : List (Nat × Instr) := []
def p_c6 : List (Nat × Instr) := []
def p_c7 : List (Nat × Instr) := []
def p_c8 : List (Nat × Instr) := []
def p_c9 : List (Nat × Instr) := []
def p_c10 : List (Nat × Instr) := []
def p_c11 : List (Nat × Instr) := []
def p_c12 : List (Nat × Instr) := []
def p_c13 : List (Nat × Instr) := []
def p_c14 : List (Nat × Instr) := [(0, .aload_n 0), (1, .invokespecial 3), (4, .aload_n 0), (5, .new 9), (8, .dup), (9, .invokespecial 11), (12, .putfield 12), (15, .aload_n 0), (16, .iconst 0), (17, .putfield 18), (20, .return_)]
def p_c15 : List (Nat × Instr) := [(0, .aload_n 0), (1, .getfield 18), (4, .ireturn)]
def p_c16 : List (Nat × Instr) := [(0, .aload_n 0), (1, .iload_n 1), (2, .putfield 18), (5, .return_)]
def p_c17 : List (Nat × Instr) := [(0, .aload_n 0), (1, .getfield 12), (4, .aload_n 1), (5, .invokevirtual 22), (8, .iconst 0), (9, .istore 4), (11, .iload 4), (13, .iload_n 3), (14, .if_icmp .ge 55), (17, .aload_n 1), (18, .iload_n 2), (19, .iload 4), (21, .iadd), (22, .aload_n 0), (23, .getfield 12), (26, .iload_n 2), (27, .iconst 2), (28, .iload 4), (30, .imul), (31, .iadd), (32, .invokevirtual 26), (35, .invokevirtual 30), (38, .aload_n 1), (39, .iload_n 2), (40, .iload_n 3), (41, .iadd), (42, .iload 4), (44, .iadd), (45, .aload_n 0), (46, .getfield 12), (49, .iload_n 2), (50, .iconst 2), (51, .iload 4), (53, .imul), (54, .iadd), (55, .iconst 1), (56, .iadd), (57, .invokevirtual 26), (60, .invokevirtual 30), (63, .iinc 4 1), (66, .goto (-55)), (69, .iconst 0), (70, .istore 4), (72, .iload 4), (74, .aload_n 0), (75, .invokevirtual 34), (78, .if_icmp .ge 19), (81, .aload_n 0), (82, .aload_n 1), (83, .iload_n 2), (84, .iload_n 3), (85, .iload 4), (87, .iconst 1), (88, .invokevirtual 38), (91, .iinc 4 1), (94, .goto (-22)), (97, .return_)]
def p_c18 : List (Nat × Instr) := [(0, .aload_n 0), (1, .invokevirtual 34), (4, .iconst 1), (5, .isub), (6, .istore 4), (8, .iload 4), (10, .ifCond .lt 19), (13, .aload_n 0), (14, .aload_n 1), (15, .iload_n 2), (16, .iload_n 3), (17, .iload 4), (19, .iconst (-1)), (20, .invokevirtual 38), (23, .iinc 4 (-1)), (26, .goto (-18)), (29, .aload_n 0), (30, .getfield 12), (33, .aload_n 1), (34, .invokevirtual 22), (37, .iconst 0), (38, .istore 4), (40, .iload 4), (42, .iload_n 3), (43, .if_icmp .ge 55), (46, .aload_n 1), (47, .iload_n 2), (48, .iconst 2), (49, .iload 4), (51, .imul), (52, .iadd), (53, .aload_n 0), (54, .getfield 12), (57, .iload_n 2), (58, .iload 4), (60, .iadd), (61, .invokevirtual 26), (64, .invokevirtual 30), (67, .aload_n 1), (68, .iload_n 2), (69, .iconst 2), (70, .iload 4), (72, .imul), (73, .iadd), (74, .iconst 1), (75, .iadd), (76, .aload_n 0), (77, .getfield 12), (80, .iload_n 2), (81, .iload_n 3), (82, .iadd), (83, .iload 4), (85, .iadd), (86, .invokevirtual 26), (89, .invokevirtual 30), (92, .iinc 4 1), (95, .goto (-55)), (98, .return_)]
def p_c19 : List (Nat × Instr) := [(0, .aload_n 0), (1, .getfield 18), (4, .iconst 2), (5, .if_icmp .ne 7), (8, .iconst 4), (9, .goto 4), (12, .iconst 2), (13, .ireturn)]
def p_c20 : List (Nat × Instr) := [(0, .iload_n 2), (1, .iload_n 3), (2, .iadd), (3, .istore 6), (5, .iconst 0), (6, .istore 7), (8, .iload 7), (10, .iload_n 3), (11, .if_icmp .ge 152), (14, .iload 4), (16, .iconst 2), (17, .irem), (18, .ifCond .ne 75), (21, .iload 7), (23, .iconst 1), (24, .iadd), (25, .iload_n 3), (26, .if_icmp .ge 10), (29, .iload 7), (31, .iconst 1), (32, .iadd), (33, .goto 6), (36, .iload_n 3), (37, .iconst 1), (38, .isub), (39, .istore 8), (41, .aload_n 0), (42, .iload 4), (44, .aload_n 1), (45, .iload_n 2), (46, .iload 7), (48, .iadd), (49, .invokevirtual 26), (52, .aload_n 1), (53, .iload_n 2), (54, .iload 8), (56, .iadd), (57, .invokevirtual 26), (60, .invokevirtual 42), (63, .lstore 9), (65, .aload_n 1), (66, .iload 6), (68, .iload 7), (70, .iadd), (71, .aload_n 1), (72, .iload 6), (74, .iload 7), (76, .iadd), (77, .invokevirtual 26), (80, .iload 5), (82, .i2l), (83, .lload 9), (85, .lmul), (86, .ladd), (87, .invokevirtual 30), (90, .goto 67), (93, .iload 7), (95, .ifCond .le 10), (98, .iload 7), (100, .iconst 1), (101, .isub), (102, .goto 4), (105, .iconst 0), (106, .istore 8), (108, .aload_n 0), (109, .iload 4), (111, .aload_n 1), (112, .iload 6), (114, .iload 8), (116, .iadd), (117, .invokevirtual 26), (120, .aload_n 1), (121, .iload 6), (123, .iload 7), (125, .iadd), (126, .invokevirtual 26), (129, .invokevirtual 46), (132, .lstore 9), (134, .aload_n 1), (135, .iload_n 2), (136, .iload 7), (138, .iadd), (139, .aload_n 1), (140, .iload_n 2), (141, .iload 7), (143, .iadd), (144, .invokevirtual 26), (147, .iload 5), (149, .i2l), (150, .lload 9), (152, .lmul), (153, .ladd), (154, .invokevirtual 30), (157, .iinc 7 1), (160, .goto (-152)), (163, .return_)]
def p_c21 : List (Nat × Instr) := [(0, .aload_n 0), (1, .getfield 18), (4, .ifCond .ne 6), (7, .lload_n 2), (8, .lneg), (9, .lreturn), (10, .aload_n 0), (11, .getfield 18), (14, .iconst 1), (15, .if_icmp .ne 11), (18, .lload_n 2), (19, .lload 4), (21, .ladd), (22, .iconst 1), (23, .lshr), (24, .lneg), (25, .lreturn), (26, .iload_n 1), (27, .ifCond .ne 9), (30, .ldc2_w 49), (33, .goto 6), (36, .ldc2_w 51), (39, .lstore 6), (41, .lload 6), (43, .lload_n 2), (44, .lload 4), (46, .ladd), (47, .lmul), (48, .ldc2_w 53), (51, .ladd), (52, .bipush 12), (54, .lshr), (55, .lreturn)]
def p_c22 : List (Nat × Instr) := [(0, .aload_n 0), (1, .getfield 18), (4, .ifCond .ne 8), (7, .lload 4), (9, .iconst 1), (10, .lshr), (11, .lreturn), (12, .aload_n 0), (13, .getfield 18), (16, .iconst 1), (17, .if_icmp .ne 14), (20, .lload_n 2), (21, .lload 4), (23, .ladd), (24, .ldc2_w 55), (27, .ladd), (28, .iconst 2), (29, .lshr), (30, .lreturn), (31, .iload_n 1), (32, .iconst 1), (33, .if_icmp .ne 9), (36, .ldc2_w 57), (39, .goto 6), (42, .ldc2_w 59), (45, .lstore 6), (47, .lload 6), (49, .lload_n 2), (50, .lload 4), (52, .ladd), (53, .lmul), (54, .ldc2_w 53), (57, .ladd), (58, .bipush 12), (60, .lshr), (61, .lreturn)]
def p_c23 : List (Nat × Instr) := [(0, .aload_n 0), (1, .invokespecial 3), (4, .aload_n 0), (5, .bipush 32), (7, .newarray .long), (9, .putfield 9), (12, .return_)]
def p_c24 : List (Nat × Instr) := [(0, .iload_n 1), (1, .ifCond .lt 21), (4, .iload_n 1), (5, .aload_n 0), (6, .getfield 9), (9, .arraylength), (10, .if_icmp .ge 12), (13, .aload_n 0), (14, .getfield 9), (17, .iload_n 1), (18, .laload), (19, .goto 4), (22, .lconst 0), (23, .lreturn)]
def p_c25 : List (Nat × Instr) := [(0, .iload_n 1), (1, .ifCond .lt 19), (4, .iload_n 1), (5, .aload_n 0), (6, .getfield 9), (9, .arraylength), (10, .if_icmp .ge 10), (13, .aload_n 0), (14, .getfield 9), (17, .iload_n 1), (18, .lload_n 2), (19, .lastore), (20, .return_)]
def p_c26 : List (Nat × Instr) := [(0, .aload_n 0), (1, .iload_n 1), (2, .invokevirtual 15), (5, .invokestatic 19), (8, .lreturn)]
def p_c27 : List (Nat × Instr) := [(0, .iconst 0), (1, .istore_n 1), (2, .iload_n 1), (3, .aload_n 0), (4, .getfield 9), (7, .arraylength), (8, .if_icmp .ge 16), (11, .aload_n 0), (12, .getfield 9), (15, .iload_n 1), (16, .lconst 0), (17, .lastore), (18, .iinc 1 1), (21, .goto (-19)), (24, .return_)]
def p_c28 : List (Nat × Instr) := [(0, .iconst 0), (1, .istore_n 2), (2, .iload_n 2), (3, .aload_n 0), (4, .getfield 9), (7, .arraylength), (8, .if_icmp .ge 20), (11, .aload_n 0), (12, .getfield 9), (15, .iload_n 2), (16, .aload_n 1), (17, .iload_n 2), (18, .invokevirtual 15), (21, .lastore), (22, .iinc 2 1), (25, .goto (-23)), (28, .return_)]
def p_c29 : List (Nat × Instr) := [(0, .aload_n 0), (1, .invokespecial 3), (4, .aload_n 0), (5, .bipush 8), (7, .newarray .boolean), (9, .putfield 9), (12, .aload_n 0), (13, .bipush 8), (15, .putfield 15), (18, .return_)]
def p_c30 : List (Nat × Instr) := [(0, .aload_n 0), (1, .getfield 15), (4, .ireturn)]
def p_c31 : List (Nat × Instr) := [(0, .aload_n 0), (1, .iload_n 1), (2, .putfield 15), (5, .aload_n 0), (6, .iconst 1), (7, .invokevirtual 19), (10, .return_)]
def p_c32 : List (Nat × Instr) := [(0, .iload_n 1), (1, .iconst 1), (2, .if_icmp .eq 24), (5, .iload_n 1), (6, .iconst 1), (7, .if_icmp .le 23), (10, .iload_n 1), (11, .bipush 16), (13, .if_icmp .ge 17), (16, .aload_n 0), (17, .iload_n 1), (18, .iconst 2), (19, .idiv), (20, .invokevirtual 23), (23, .ifCond .eq 7), (26, .iconst 1), (27, .goto 4), (30, .iconst 0), (31, .ireturn)]
def p_c33 : List (Nat × Instr) := [(0, .iload_n 1), (1, .ifCond .lt 25), (4, .iload_n 1), (5, .aload_n 0), (6, .getfield 9), (9, .arraylength), (10, .if_icmp .ge 16), (13, .aload_n 0), (14, .getfield 9), (17, .iload_n 1), (18, .baload), (19, .ifCond .eq 7), (22, .iconst 1), (23, .goto 4), (26, .iconst 0), (27, .ireturn)]
def p_c34 : List (Nat × Instr) := [(0, .aload_n 0), (1, .iload_n 1), (2, .invokevirtual 27), (5, .ifCond .eq 30), (8, .aload_n 0), (9, .iload_n 1), (10, .invokevirtual 23), (13, .ifCond .ne 22), (16, .iload_n 1), (17, .bipush 8), (19, .if_icmp .ge 16), (22, .aload_n 0), (23, .iload_n 1), (24, .invokevirtual 30), (27, .iconst 2), (28, .if_icmp .lt 7), (31, .iconst 1), (32, .goto 4), (35, .iconst 0), (36, .ireturn)]
def p_c35 : List (Nat × Instr) := [(0, .iload_n 1), (1, .ifCond .lt 19), (4, .iload_n 1), (5, .aload_n 0), (6, .getfield 9), (9, .arraylength), (10, .if_icmp .ge 10), (13, .aload_n 0), (14, .getfield 9), (17, .iload_n 1), (18, .iconst 1), (19, .bastore), (20, .return_)]
def p_c36 : List (Nat × Instr) := [(0, .iconst 1), (1, .istore_n 2), (2, .iload_n 2), (3, .aload_n 0), (4, .getfield 9), (7, .arraylength), (8, .if_icmp .ge 25), (11, .aload_n 0), (12, .iload_n 2), (13, .iload_n 1), (14, .invokevirtual 34), (17, .ifCond .eq 10), (20, .aload_n 0), (21, .getfield 9), (24, .iload_n 2), (25, .iconst 0), (26, .bastore), (27, .iinc 2 1), (30, .goto (-28)), (33, .return_)]
def p_c37 : List (Nat × Instr) := [(0, .aload_n 0), (1, .iload_n 1), (2, .invokevirtual 38), (5, .aload_n 0), (6, .iload_n 2), (7, .invokevirtual 38), (10, .isub), (11, .istore_n 3), (12, .iload_n 3), (13, .ifCond .lt 14), (16, .iload_n 1), (17, .iload_n 3), (18, .ishr), (19, .iload_n 2), (20, .if_icmp .ne 7), (23, .iconst 1), (24, .goto 4), (27, .iconst 0), (28, .ireturn)]
def p_c38 : List (Nat × Instr) := [(0, .iload_n 1), (1, .iconst 2), (2, .if_icmp .ge 5), (5, .iconst 0), (6, .ireturn), (7, .iload_n 1), (8, .iconst 4), (9, .if_icmp .ge 5), (12, .iconst 1), (13, .ireturn), (14, .iload_n 1), (15, .bipush 8), (17, .if_icmp .ge 7), (20, .iconst 2), (21, .goto 4), (24, .iconst 3), (25, .ireturn)]
def p_c39 : List (Nat × Instr) := [(0, .aload_n 0), (1, .getfield 15), (4, .aload_n 0), (5, .iload_n 1), (6, .invokevirtual 38), (9, .ishr), (10, .ireturn)]
def p_c40 : List (Nat × Instr) := [(0, .iload_n 1), (1, .iconst 1), (2, .aload_n 0), (3, .iload_n 1), (4, .invokevirtual 38), (7, .ishl), (8, .isub), (9, .aload_n 0), (10, .iload_n 1), (11, .invokevirtual 30), (14, .imul), (15, .ireturn)]
def p_c41 : List (Nat × Instr) := [(0, .iconst 1), (1, .istore_n 2), (2, .iconst 0), (3, .istore_n 3), (4, .iload_n 3), (5, .iconst 3), (6, .if_icmp .ge 43), (9, .aload_n 0), (10, .iload_n 2), (11, .invokevirtual 23), (14, .ifCond .eq 35), (17, .iconst 2), (18, .iload_n 2), (19, .imul), (20, .iconst 1), (21, .iadd), (22, .istore 4), (24, .iload_n 1), (25, .aload_n 0), (26, .iload 4), (28, .invokevirtual 41), (31, .if_icmp .ge 9), (34, .iconst 2), (35, .iload_n 2), (36, .imul), (37, .goto 5), (40, .iload 4), (42, .istore_n 2), (43, .iinc 3 1), (46, .goto (-42)), (49, .iload_n 2), (50, .ireturn)]
def p_c42 : List (Nat × Instr) := [(0, .iconst 1), (1, .istore_n 1), (2, .iconst 1), (3, .istore_n 2), (4, .iload_n 2), (5, .aload_n 0), (6, .getfield 9), (9, .arraylength), (10, .if_icmp .ge 21), (13, .aload_n 0), (14, .getfield 9), (17, .iload_n 2), (18, .baload), (19, .ifCond .eq 6), (22, .iinc 1 1), (25, .iinc 2 1), (28, .goto (-24)), (31, .iload_n 1), (32, .ireturn)]
def p_c43 : List (Nat × Instr) := [(0, .aload_n 0), (1, .invokespecial 1), (4, .aload_n 0), (5, .new 7), (8, .dup), (9, .invokespecial 9), (12, .putfield 10), (15, .aload_n 0), (16, .new 16), (19, .dup), (20, .invokespecial 18), (23, .putfield 19), (26, .aload_n 0), (27, .new 23), (30, .dup), (31, .invokespecial 25), (34, .putfield 26), (37, .aload_n 0), (38, .new 30), (41, .dup), (42, .invokespecial 32), (45, .putfield 33), (48, .aload_n 0), (49, .new 23), (52, .dup), (53, .invokespecial 25), (56, .putfield 37), (59, .aload_n 0), (60, .new 23), (63, .dup), (64, .invokespecial 25), (67, .putfield 40), (70, .aload_n 0), (71, .new 23), (74, .dup), (75, .invokespecial 25), (78, .putfield 43), (81, .aload_n 0), (82, .bipush 8), (84, .newarray .int), (86, .putfield 46), (89, .return_)]
def p_c44 : List (Nat × Instr) := [(0, .iload_n 1), (1, .iconst 4), (2, .if_icmp .eq 31), (5, .iload_n 1), (6, .bipush 8), (8, .if_icmp .eq 25), (11, .iload_n 1), (12, .bipush 16), (14, .if_icmp .eq 19), (17, .iload_n 1), (18, .bipush 32), (20, .if_icmp .eq 13), (23, .new 50), (26, .dup), (27, .ldc 52), (29, .invokespecial 54), (32, .athrow), (33, .aload_n 0), (34, .getfield 10), (37, .invokevirtual 57), (40, .istore_n 2), (41, .aload_n 0), (42, .getfield 10), (45, .iload_n 1), (46, .invokevirtual 61), (49, .aload_n 0), (50, .getfield 26), (53, .invokevirtual 65), (56, .iload_n 2), (57, .ireturn)]
def p_c45 : List (Nat × Instr) := [(0, .aload_n 0), (1, .iload_n 1), (2, .invokevirtual 68), (5, .iload_n 2), (6, .sipush (-1000)), (9, .if_icmp .lt 10), (12, .iload_n 2), (13, .sipush 1000), (16, .if_icmp .le 13), (19, .new 50), (22, .dup), (23, .ldc 71), (25, .invokespecial 54), (28, .athrow), (29, .aload_n 0), (30, .invokevirtual 73), (33, .aload_n 0), (34, .getfield 26), (37, .iload_n 1), (38, .invokevirtual 76), (41, .lstore_n 3), (42, .aload_n 0), (43, .getfield 26), (46, .iload_n 1), (47, .iload_n 2), (48, .i2l), (49, .invokevirtual 80), (52, .lload_n 3), (53, .lreturn)]
def p_c46 : List (Nat × Instr) := [(0, .aload_n 0), (1, .iload_n 1), (2, .invokevirtual 68), (5, .aload_n 0), (6, .invokevirtual 84), (9, .aload_n 0), (10, .getfield 37), (13, .iload_n 1), (14, .invokevirtual 76), (17, .lreturn)]
def p_c47 : List (Nat × Instr) := [(0, .aload_n 0), (1, .getfield 10), (4, .invokevirtual 57), (7, .ireturn)]
def p_c48 : List (Nat × Instr) := [(0, .iload_n 1), (1, .ifCond .lt 8), (4, .iload_n 1), (5, .iconst 2), (6, .if_icmp .le 13), (9, .new 50), (12, .dup), (13, .ldc 87), (15, .invokespecial 54), (18, .athrow), (19, .aload_n 0), (20, .invokevirtual 73), (23, .aload_n 0), (24, .getfield 19), (27, .invokevirtual 89), (30, .istore_n 2), (31, .aload_n 0), (32, .getfield 19), (35, .iload_n 1), (36, .invokevirtual 92), (39, .iload_n 2), (40, .ireturn)]
def p_c49 : List (Nat × Instr) := [(0, .aload_n 0), (1, .iload_n 1), (2, .invokevirtual 95), (5, .aload_n 0), (6, .getfield 10), (9, .iload_n 1), (10, .invokevirtual 98), (13, .ifCond .ne 13), (16, .new 102), (19, .dup), (20, .ldc 104), (22, .invokespecial 106), (25, .athrow), (26, .aload_n 0), (27, .iload_n 1), (28, .invokevirtual 107), (31, .aload_n 0), (32, .getfield 10), (35, .iload_n 1), (36, .invokevirtual 110), (39, .iconst 2), (40, .idiv), (41, .ireturn)]
def p_c50 : List (Nat × Instr) := [(0, .aload_n 0), (1, .iload_n 1), (2, .invokevirtual 95), (5, .aload_n 0), (6, .getfield 10), (9, .iload_n 1), (10, .invokevirtual 114), (13, .ifCond .ne 13), (16, .new 102), (19, .dup), (20, .ldc 117), (22, .invokespecial 106), (25, .athrow), (26, .aload_n 0), (27, .iload_n 1), (28, .invokevirtual 119), (31, .ireturn)]
def p_c51 : List (Nat × Instr) := [(0, .aload_n 0), (1, .getfield 10), (4, .iload_n 1), (5, .invokevirtual 122), (8, .ireturn)]
def p_c52 : List (Nat × Instr) := [(0, .aload_n 0), (1, .iload_n 1), (2, .invokevirtual 95), (5, .aload_n 0), (6, .getfield 10), (9, .iload_n 1), (10, .invokevirtual 114), (13, .ifCond .ne 7), (16, .iconst 1), (17, .goto 4), (20, .iconst 0), (21, .ireturn)]
def p_c53 : List (Nat × Instr) := [(0, .aload_n 0), (1, .getfield 10), (4, .invokevirtual 125), (7, .ireturn)]
def p_c54 : List (Nat × Instr) := [(0, .iload_n 1), (1, .ifCond .lt 14), (4, .iload_n 1), (5, .aload_n 0), (6, .getfield 10), (9, .invokevirtual 125), (12, .if_icmp .lt 13), (15, .new 128), (18, .dup), (19, .ldc 130), (21, .invokespecial 132), (24, .athrow), (25, .iconst 0), (26, .istore_n 2), (27, .iconst 0), (28, .istore_n 3), (29, .iload_n 3), (30, .iload_n 1), (31, .if_icmp .ge 27), (34, .iload_n 2), (35, .aload_n 0), (36, .getfield 10), (39, .aload_n 0), (40, .getfield 10), (43, .iload_n 2), (44, .invokevirtual 133), (47, .invokevirtual 110), (50, .iadd), (51, .istore_n 2), (52, .iinc 3 1), (55, .goto (-26)), (58, .aload_n 0), (59, .getfield 10), (62, .iload_n 2), (63, .invokevirtual 133), (66, .ireturn)]
def p_c55 : List (Nat × Instr) := [(0, .aload_n 0), (1, .iload_n 1), (2, .invokevirtual 95), (5, .aload_n 0), (6, .iload_n 1), (7, .invokevirtual 136), (10, .ireturn)]
def p_c56 : List (Nat × Instr) := [(0, .iload_n 1), (1, .iconst 1), (2, .if_icmp .lt 8), (5, .iload_n 1), (6, .iconst 3), (7, .if_icmp .le 13), (10, .new 50), (13, .dup), (14, .ldc 139), (16, .invokespecial 54), (19, .athrow), (20, .aload_n 0), (21, .iconst 1), (22, .invokevirtual 119), (25, .pop), (26, .aload_n 0), (27, .iconst 1), (28, .iload_n 1), (29, .ishl), (30, .invokevirtual 141), (33, .aload_n 0), (34, .invokevirtual 144), (37, .aload_n 0), (38, .iconst 1), (39, .invokevirtual 136), (42, .ireturn)]
def p_c57 : List (Nat × Instr) := [(0, .aload_n 0), (1, .iload_n 1), (2, .invokevirtual 95), (5, .aload_n 0), (6, .iload_n 1), (7, .invokevirtual 147), (10, .aload_n 0), (11, .getfield 10), (14, .iload_n 1), (15, .invokevirtual 110), (18, .ireturn)]
def p_c58 : List (Nat × Instr) := [(0, .aload_n 0), (1, .iload_n 1), (2, .invokevirtual 95), (5, .aload_n 0), (6, .iload_n 1), (7, .invokevirtual 147), (10, .aload_n 0), (11, .iload_n 2), (12, .aload_n 0), (13, .getfield 10), (16, .iload_n 1), (17, .invokevirtual 110), (20, .invokevirtual 150), (23, .aload_n 0), (24, .getfield 26), (27, .aload_n 0), (28, .getfield 10), (31, .iload_n 1), (32, .invokevirtual 154), (35, .iload_n 2), (36, .iadd), (37, .invokevirtual 76), (40, .lreturn)]
def p_c59 : List (Nat × Instr) := []
def p_c60 : List (Nat × Instr) := [(0, .aload_n 0), (1, .iload_n 1), (2, .invokevirtual 95), (5, .aload_n 0), (6, .iload_n 1), (7, .invokevirtual 147), (10, .aload_n 0), (11, .getfield 10), (14, .iload_n 1), (15, .invokevirtual 110), (18, .iconst 2), (19, .idiv), (20, .istore_n 3), (21, .aload_n 0), (22, .iload_n 2), (23, .iload_n 3), (24, .invokevirtual 150), (27, .aload_n 0), (28, .getfield 19), (31, .invokevirtual 89), (34, .iconst 2), (35, .if_icmp .ne 13), (38, .new 102), (41, .dup), (42, .ldc 161), (44, .invokespecial 106), (47, .athrow), (48, .aload_n 0), (49, .getfield 10), (52, .iload_n 1), (53, .invokevirtual 154), (56, .iconst 2), (57, .iload_n 2), (58, .imul), (59, .iadd), (60, .istore 4), (62, .aload_n 0), (63, .getfield 19), (66, .invokevirtual 89), (69, .ifCond .ne 25), (72, .aload_n 0), (73, .getfield 26), (76, .iload 4), (78, .iconst 1), (79, .iadd), (80, .invokevirtual 76), (83, .aload_n 0), (84, .getfield 26), (87, .iload 4), (89, .invokevirtual 76), (92, .lsub), (93, .lreturn), (94, .iload_n 2), (95, .iconst 1), (96, .iadd), (97, .iload_n 3), (98, .if_icmp .ge 10), (101, .iload 4), (103, .iconst 2), (104, .iadd), (105, .goto 5), (108, .iload 4), (110, .istore 5), (112, .ldc2_w 163), (115, .aload_n 0), (116, .getfield 26), (119, .iload 4), (121, .iconst 1), (122, .iadd), (123, .invokevirtual 76), (126, .lmul), (127, .aload_n 0), (128, .getfield 26), (131, .iload 4), (133, .invokevirtual 76), (136, .lsub), (137, .aload_n 0), (138, .getfield 26), (141, .iload 5), (143, .invokevirtual 76), (146, .lsub), (147, .lstore 6), (149, .lload 6), (151, .lconst 1), (152, .ladd), (153, .iconst 1), (154, .lshr), (155, .lreturn)]
def p_c61 : List (Nat × Instr) := []
def p_c62 : List (Nat × Instr) := []
def p_c63 : List (Nat × Instr) := []
def p_c64 : List (Nat × Instr) := []
def p_c65 : List (Nat × Instr) := []
def p_c66 : List (Nat × Instr) := []
def p_c67 : List (Nat × Instr) := []
def p_c68 : List (Nat × Instr) := []
def p_c69 : List (Nat × Instr) := []
def p_c70 : List (Nat × Instr) := []
def p_c71 : List (Nat × Instr) := [(0, .aload_n 0), (1, .getfield 10), (4, .iload_n 1), (5, .invokevirtual 122), (8, .ifCond .ne 13), (11, .new 128), (14, .dup), (15, .ldc 215), (17, .invokespecial 132), (20, .athrow), (21, .return_)]
def p_c72 : List (Nat × Instr) := [(0, .aload_n 0), (1, .getfield 10), (4, .iload_n 1), (5, .invokevirtual 114), (8, .ifCond .eq 13), (11, .new 102), (14, .dup), (15, .ldc 217), (17, .invokespecial 106), (20, .athrow), (21, .return_)]
def p_c73 : List (Nat × Instr) := [(0, .aload_n 0), (1, .getfield 10), (4, .iconst 1), (5, .invokevirtual 114), (8, .ifCond .eq 13), (11, .new 102), (14, .dup), (15, .ldc 219), (17, .invokespecial 106), (20, .athrow), (21, .return_)]
def p_c74 : List (Nat × Instr) := []
def p_c75 : List (Nat × Instr) := [(0, .aload_n 0), (1, .iload_n 1), (2, .aload_n 0), (3, .getfield 10), (6, .invokevirtual 57), (9, .invokevirtual 150), (12, .return_)]
def p_c76 : List (Nat × Instr) := [(0, .iload_n 1), (1, .ifCond .lt 8), (4, .iload_n 1), (5, .iload_n 2), (6, .if_icmp .lt 13), (9, .new 128), (12, .dup), (13, .ldc 227), (15, .invokespecial 132), (18, .athrow), (19, .return_)]
def p_c77 : List (Nat × Instr) := []
def p_c78 : List (Nat × Instr) := []
def p_c79 : List (Nat × Instr) := []
def p_c80 : List (Nat × Instr) := [(0, .aload_n 0), (1, .getfield 19), (4, .aload_n 0), (5, .getfield 26), (8, .aload_n 0), (9, .getfield 10), (12, .iload_n 1), (13, .invokevirtual 154), (16, .aload_n 0), (17, .getfield 10), (20, .iload_n 1), (21, .invokevirtual 110), (24, .iconst 2), (25, .idiv), (26, .invokevirtual 235), (29, .aload_n 0), (30, .getfield 10), (33, .iload_n 1), (34, .invokevirtual 239), (37, .return_)]
def p_c81 : List (Nat × Instr) := [(0, .aload_n 0), (1, .aload_n 0), (2, .getfield 26), (5, .iload_n 1), (6, .invokevirtual 242), (9, .istore_n 2), (10, .aload_n 0), (11, .getfield 10), (14, .iload_n 1), (15, .invokevirtual 246), (18, .iload_n 2), (19, .ireturn)]
def p_c82 : List (Nat × Instr) := [(0, .iconst 0), (1, .istore_n 3), (2, .bipush 7), (4, .istore 4), (6, .iload 4), (8, .iconst 1), (9, .if_icmp .lt 65), (12, .aload_n 0), (13, .getfield 10), (16, .iload 4), (18, .invokevirtual 114), (21, .ifCond .eq 47), (24, .aload_n 0), (25, .getfield 10), (28, .iload 4), (30, .iload_n 2), (31, .invokevirtual 249), (34, .ifCond .eq 34), (37, .aload_n 0), (38, .getfield 19), (41, .aload_n 1), (42, .aload_n 0), (43, .getfield 10), (46, .iload 4), (48, .invokevirtual 154), (51, .aload_n 0), (52, .getfield 10), (55, .iload 4), (57, .invokevirtual 110), (60, .iconst 2), (61, .idiv), (62, .invokevirtual 253), (65, .iinc 3 1), (68, .iinc 4 (-1)), (71, .goto (-65)), (74, .iload_n 3), (75, .ireturn)]
def p_c83 : List (Nat × Instr) := [(0, .iconst 1), (1, .istore_n 2), (2, .iload_n 2), (3, .iload_n 1), (4, .if_icmp .ge 56), (7, .iload_n 2), (8, .aload_n 0), (9, .getfield 46), (12, .arraylength), (13, .if_icmp .ge 47), (16, .aload_n 0), (17, .getfield 10), (20, .iload_n 2), (21, .invokevirtual 122), (24, .ifCond .eq 30), (27, .aload_n 0), (28, .getfield 46), (31, .iload_n 2), (32, .aload_n 0), (33, .iload_n 2), (34, .invokevirtual 136), (37, .iastore), (38, .aload_n 0), (39, .getfield 10), (42, .iload_n 2), (43, .invokevirtual 98), (46, .ifCond .eq 8), (49, .aload_n 0), (50, .iload_n 2), (51, .invokevirtual 107), (54, .iinc 2 1), (57, .goto (-55)), (60, .return_)]
def p_c84 : List (Nat × Instr) := [(0, .aload_n 0), (1, .getfield 46), (4, .arraylength), (5, .iconst 1), (6, .isub), (7, .istore_n 1), (8, .iload_n 1), (9, .iconst 1), (10, .if_icmp .lt 40), (13, .aload_n 0), (14, .getfield 10), (17, .iload_n 1), (18, .invokevirtual 114), (21, .ifCond .eq 23), (24, .aload_n 0), (25, .getfield 46), (28, .iload_n 1), (29, .iaload), (30, .aload_n 0), (31, .iload_n 1), (32, .invokevirtual 136), (35, .if_icmp .gt 9), (38, .aload_n 0), (39, .iload_n 1), (40, .invokevirtual 119), (43, .pop), (44, .iinc 1 (-1)), (47, .goto (-39)), (50, .return_)]
def p_c85 : List (Nat × Instr) := [(0, .iconst 0), (1, .istore_n 2), (2, .aload_n 0), (3, .getfield 10), (6, .iload_n 1), (7, .invokevirtual 154), (10, .aload_n 0), (11, .getfield 10), (14, .iload_n 1), (15, .invokevirtual 110), (18, .iadd), (19, .istore_n 3), (20, .aload_n 0), (21, .getfield 10), (24, .iload_n 1), (25, .invokevirtual 154), (28, .istore 4), (30, .iload 4), (32, .iload_n 3), (33, .if_icmp .ge 24), (36, .iload_n 2), (37, .aload_n 0), (38, .getfield 26), (41, .iload 4), (43, .invokevirtual 179), (46, .invokestatic 256), (49, .iadd), (50, .istore_n 2), (51, .iinc 4 1), (54, .goto (-24)), (57, .iload_n 2), (58, .ireturn)]
def p_c86 : List (Nat × Instr) := [(0, .iconst 0), (1, .istore_n 2), (2, .iload_n 2), (3, .bipush 63), (5, .if_icmp .ge 17), (8, .lload_n 0), (9, .iload_n 2), (10, .lshr), (11, .lconst 0), (12, .lcmp), (13, .ifCond .eq 9), (16, .iinc 2 1), (19, .goto (-17)), (22, .iload_n 2), (23, .ireturn)]
def p_c87 : List (Nat × Instr) := [(0, .aload_n 0), (1, .getfield 37), (4, .aload_n 0), (5, .getfield 26), (8, .invokevirtual 260), (11, .aload_n 0), (12, .aload_n 0), (13, .getfield 37), (16, .iconst 1), (17, .invokevirtual 242), (20, .pop), (21, .return_)]
def p_c88 : List (Nat × Instr) := []
def p_c89 : List (Nat × Instr) := []
def p_c90 : List (Nat × Instr) := []
def p_c91 : List (Nat × Instr) := []
def p_c92 : List (Nat × Instr) := []
def p_c93 : List (Nat × Instr) := []
def p_c94 : List (Nat × Instr) := [(0, .iload_n 1), (1, .aload_n 0), (2, .arraylength), (3, .if_icmp .ge 9), (6, .aload_n 0), (7, .iload_n 1), (8, .iaload), (9, .goto 9), (12, .ldc 7), (14, .iload_n 1), (15, .iconst 1), (16, .iadd), (17, .imul), (18, .ireturn)]
def p_c95 : List (Nat × Instr) := [(0, .iload_n 0), (1, .iconst 1), (2, .iushr), (3, .iload_n 1), (4, .irem), (5, .ireturn)]
def p_c96 : List (Nat × Instr) := [(0, .iconst 0), (1, .istore_n 3), (2, .iload_n 3), (3, .iload_n 2), (4, .if_icmp .ge 24), (7, .aload_n 0), (8, .iload_n 3), (9, .invokevirtual 8), (12, .aload_n 1), (13, .iload_n 3), (14, .iaload), (15, .i2l), (16, .lcmp), (17, .ifCond .eq 5), (20, .iconst 0), (21, .ireturn), (22, .iinc 3 1), (25, .goto (-23)), (28, .iconst 1), (29, .ireturn)]
def p_c97 : List (Nat × Instr) := [(0, .iconst 0), (1, .istore_n 2), (2, .iconst 0), (3, .istore_n 3), (4, .iconst 0), (5, .istore 4), (7, .iload 4), (9, .aload_n 0), (10, .invokevirtual 14), (13, .if_icmp .ge 109), (16, .aload_n 0), (17, .iload 4), (19, .invokevirtual 18), (22, .istore 5), (24, .iload 5), (26, .bipush 7), (28, .if_icmp .le 7), (31, .iconst 3), (32, .goto 24), (35, .iload 5), (37, .iconst 3), (38, .if_icmp .le 7), (41, .iconst 2), (42, .goto 14), (45, .iload 5), (47, .iconst 1), (48, .if_icmp .le 7), (51, .iconst 1), (52, .goto 4), (55, .iconst 0), (56, .istore 6), (58, .aload_n 0), (59, .iload 5), (61, .invokevirtual 22), (64, .ifCond .eq 32), (67, .aload_n 0), (68, .iload 5), (70, .invokevirtual 26), (73, .iload_n 1), (74, .iload 6), (76, .ishr), (77, .if_icmp .ne 19), (80, .iload 5), (82, .iconst 1), (83, .iload 6), (85, .ishl), (86, .isub), (87, .iload_n 1), (88, .iload 6), (90, .ishr), (91, .imul), (92, .iload_n 2), (93, .if_icmp .eq 5), (96, .iconst 0), (97, .ireturn), (98, .iload_n 2), (99, .aload_n 0), (100, .iload 5), (102, .invokevirtual 26), (105, .iadd), (106, .istore_n 2), (107, .iload_n 3), (108, .aload_n 0), (109, .iload 5), (111, .invokevirtual 29), (114, .iadd), (115, .istore_n 3), (116, .iinc 4 1), (119, .goto (-112)), (122, .iload_n 2), (123, .iload_n 1), (124, .if_icmp .ne 16), (127, .aload_n 0), (128, .iconst 1), (129, .invokevirtual 29), (132, .iload_n 3), (133, .if_icmp .ne 7), (136, .iconst 1), (137, .goto 4), (140, .iconst 0), (141, .ireturn)]
def p_c98 : List (Nat × Instr) := [(0, .aload_n 0), (1, .iload_n 1), (2, .invokevirtual 26), (5, .iconst 2), (6, .idiv), (7, .istore 4), (9, .iconst 0), (10, .istore 5), (12, .iload 5), (14, .iload 4), (16, .if_icmp .ge 25), (19, .iload_n 2), (20, .iconst 2), (21, .if_icmp .ge 20), (24, .aload_n 3), (25, .iload 5), (27, .aload_n 0), (28, .iload_n 1), (29, .iload 5), (31, .invokevirtual 32), (34, .lastore), (35, .iinc 5 1), (38, .goto (-26)), (41, .aload_n 0), (42, .iload_n 1), (43, .invokevirtual 36), (46, .iload 4), (48, .if_icmp .ne 33), (51, .aload_n 0), (52, .iload_n 1), (53, .invokevirtual 22), (56, .ifCond .ne 25), (59, .aload_n 0), (60, .iconst 2), (61, .iload_n 1), (62, .imul), (63, .invokevirtual 22), (66, .ifCond .eq 15), (69, .aload_n 0), (70, .iconst 2), (71, .iload_n 1), (72, .imul), (73, .iconst 1), (74, .iadd), (75, .invokevirtual 22), (78, .ifCond .ne 5), (81, .iconst 0), (82, .ireturn), (83, .iconst 0), (84, .istore 5), (86, .iload 5), (88, .iload 4), (90, .if_icmp .ge 35), (93, .iload_n 2), (94, .iconst 2), (95, .if_icmp .ge 30), (98, .aload_n 0), (99, .iconst 2), (100, .iload_n 1), (101, .imul), (102, .iconst 1), (103, .iadd), (104, .iload 5), (106, .invokevirtual 39), (109, .aload_n 3), (110, .iload 5), (112, .laload), (113, .lcmp), (114, .ifCond .eq 5), (117, .iconst 0), (118, .ireturn), (119, .iinc 5 1), (122, .goto (-36)), (125, .iconst 1), (126, .ireturn)]
def p_c99_0 : List (Nat × Instr) := [(0, .iconst 4), (1, .iload_n 1), (2, .iconst 4), (3, .invokestatic 42), (6, .ishl), (7, .istore 5), (9, .iload_n 1), (10, .iconst 3), (11, .ishr), (12, .iconst 3), (13, .invokestatic 42), (16, .istore 6), (18, .aload_n 0), (19, .invokevirtual 48), (22, .istore 7), (24, .aload_n 0), (25, .iload 5), (27, .invokevirtual 51), (30, .iload 7), (32, .if_icmp .ne 12), (35, .aload_n 0), (36, .iload 6), (38, .invokevirtual 54), (41, .ifCond .ge 5), (44, .iconst 0), (45, .ireturn), (46, .iload_n 1), (47, .iconst 5), (48, .ishr), (49, .iconst 4), (50, .invokestatic 42), (53, .istore 8), (55, .iconst 0), (56, .istore 9), (58, .iload 9), (60, .iload 5), (62, .if_icmp .ge 121), (65, .iload_n 1), (66, .sipush 15695), (69, .iload 9), (71, .imul), (72, .iadd), (73, .iload_n 2), (74, .iconst 1), (75, .ior), (76, .imul), (77, .ldc 57), (79, .iand), (80, .istore 10), (82, .aload_n 3), (83, .iload 9), (85, .iload 8), (87, .ifCond .ne 18), (90, .iload 10), (92, .sipush 2001), (95, .invokestatic 42), (98, .sipush 1000), (101, .isub), (102, .goto 57), (105, .iload 8), (107, .iconst 1), (108, .if_icmp .ne 15), (111, .bipush 30), (113, .iload 9), (115, .imul), (116, .sipush 1001), (119, .irem), (120, .goto 39), (123, .iload 8), (125, .iconst 2), (126, .if_icmp .ne 15), (129, .iload 10), (131, .bipush 7), (133, .invokestatic 42), (136, .iconst 3), (137, .isub), (138, .goto 21), (141, .iload 9), (143, .iload 5), (145, .iconst 2), (146, .idiv), (147, .if_icmp .ge 9), (150, .sipush (-1000)), (153, .goto 6), (156, .sipush 1000), (159, .iastore), (160, .aload_n 0), (161, .iload 9), (163, .aload_n 3), (164, .iload 9), (166, .iaload), (167, .invokevirtual 58), (170, .lconst 0), (171, .lcmp), (172, .ifCond .eq 5), (175, .iconst 0), (176, .ireturn), (177, .iinc 9 1), (180, .goto (-122)), (183, .iconst 0)]
def p_c99_1 : List (Nat × Instr) := [(184, .istore 9), (186, .iconst 0), (187, .istore 10), (189, .iload 10), (191, .bipush 9), (193, .if_icmp .ge 71), (196, .iconst 1), (197, .iload_n 2), (198, .iload 10), (200, .ishr), (201, .bipush 7), (203, .invokestatic 42), (206, .iadd), (207, .istore 11), (209, .aload_n 0), (210, .iload 11), (212, .invokevirtual 61), (215, .ifCond .eq 43), (218, .aload_n 0), (219, .iload 11), (221, .invokevirtual 22), (224, .ifCond .eq 34), (227, .aload_n 0), (228, .iload 11), (230, .invokevirtual 26), (233, .iconst 2), (234, .if_icmp .ge 6), (237, .goto 21), (240, .aload_n 0), (241, .iload 11), (243, .iload 6), (245, .aload 4), (247, .invokestatic 64), (250, .ifCond .ne 5), (253, .iconst 0), (254, .ireturn), (255, .iinc 9 1), (258, .iinc 10 1), (261, .goto (-72)), (264, .aload_n 0), (265, .iload 5), (267, .invokestatic 68), (270, .ifCond .eq 24), (273, .aload_n 0), (274, .aload_n 3), (275, .iload 5), (277, .invokestatic 72), (280, .ifCond .eq 14), (283, .aload_n 0), (284, .invokevirtual 14), (287, .iload 9), (289, .iconst 1), (290, .iadd), (291, .if_icmp .eq 5), (294, .iconst 0), (295, .ireturn), (296, .aload_n 0), (297, .iconst 1), (298, .invokevirtual 29), (301, .istore 10), (303, .iload 9), (305, .ifCond .le 13), (308, .aload_n 0), (309, .iconst 1), (310, .invokevirtual 76), (313, .iload 9), (315, .if_icmp .ne 13), (318, .aload_n 0), (319, .aload_n 3), (320, .iload 5), (322, .invokestatic 72), (325, .ifCond .ne 5), (328, .iconst 0), (329, .ireturn), (330, .aload_n 0), (331, .iconst 1), (332, .invokevirtual 29), (335, .istore 11), (337, .aload_n 0), (338, .iconst 3), (339, .invokevirtual 79), (342, .istore 12), (344, .iload 12), (346, .aload_n 0), (347, .iconst 1), (348, .invokevirtual 29), (351, .if_icmp .ne 36), (354, .iload 12), (356, .iload 10), (358, .if_icmp .gt 29), (361, .iload 12), (363, .iload 11), (365, .if_icmp .gt 22), (368, .aload_n 0), (369, .iload 5), (371, .invokestatic 68), (374, .ifCond .eq 13), (377, .aload_n 0), (378, .aload_n 3), (379, .iload 5)]
def p_c99_2 : List (Nat × Instr) := [(381, .invokestatic 72), (384, .ifCond .ne 5), (387, .iconst 0), (388, .ireturn), (389, .aload_n 0), (390, .iconst 1), (391, .invokevirtual 79), (394, .istore 13), (396, .aload_n 0), (397, .iconst 2), (398, .invokevirtual 79), (401, .istore 14), (403, .iload 12), (405, .iload 14), (407, .if_icmp .gt 27), (410, .iload 14), (412, .iload 13), (414, .if_icmp .gt 20), (417, .iload 13), (419, .iload 11), (421, .if_icmp .gt 13), (424, .aload_n 0), (425, .aload_n 3), (426, .iload 5), (428, .invokestatic 72), (431, .ifCond .ne 5), (434, .iconst 0), (435, .ireturn), (436, .aload_n 0), (437, .iconst 1), (438, .invokevirtual 22), (441, .ifCond .ne 14), (444, .aload_n 0), (445, .iconst 1), (446, .invokevirtual 76), (449, .iconst 1), (450, .if_icmp .ge 5), (453, .iconst 0), (454, .ireturn), (455, .iconst 0), (456, .istore 15), (458, .iload 15), (460, .iload 5), (462, .if_icmp .ge 27), (465, .aload_n 0), (466, .iconst 1), (467, .iload 15), (469, .invokevirtual 39), (472, .aload_n 3), (473, .iload 15), (475, .iaload), (476, .i2l), (477, .lcmp), (478, .ifCond .eq 5), (481, .iconst 0), (482, .ireturn), (483, .iinc 15 1), (486, .goto (-28)), (489, .aload_n 0), (490, .iconst 1), (491, .invokevirtual 29), (494, .iload 11), (496, .if_icmp .ne 7), (499, .iconst 1), (500, .goto 4), (503, .iconst 0), (504, .ireturn)]
def p_c99 : List (Nat × Instr) := p_c99_0 ++ (p_c99_1 ++ (p_c99_2))
def p_c100 : List (Nat × Instr) := [(0, .new 9), (3, .dup), (4, .invokespecial 82), (7, .astore_n 1), (8, .bipush 32), (10, .newarray .int), (12, .astore_n 2), (13, .bipush 16), (15, .newarray .long), (17, .astore_n 3), (18, .iconst 0), (19, .istore 4), (21, .iload 4), (23, .bipush 12), (25, .if_icmp .ge 44), (28, .aload_n 1), (29, .aload_n 0), (30, .iconst 2), (31, .iload 4), (33, .imul), (34, .invokestatic 83), (37, .ldc 57), (39, .iand), (40, .aload_n 0), (41, .iconst 2), (42, .iload 4), (44, .imul), (45, .iconst 1), (46, .iadd), (47, .invokestatic 83), (50, .ldc 57), (52, .iand), (53, .aload_n 2), (54, .aload_n 3), (55, .invokestatic 87), (58, .ifCond .ne 5), (61, .iconst 0), (62, .ireturn), (63, .iinc 4 1), (66, .goto (-45)), (69, .iconst 1), (70, .ireturn)]
def p_codes : List (List (Nat × Instr)) := [p_c0, p_c1, p_c2, p_c3, p_c4, p_c5, p_c6, p_c7, p_c8, p_c9, p_c10, p_c11, p_c12, p_c13, p_c14, p_c15, p_c16, p_c17, p_c18, p_c19, p_c20, p_c21, p_c22, p_c23, p_c24, p_c25, p_c26, p_c27, p_c28, p_c29, p_c30, p_c31, p_c32, p_c33, p_c34, p_c35, p_c36, p_c37, p_c38, p_c39, p_c40, p_c41, p_c42, p_c43, p_c44, p_c45, p_c46, p_c47, p_c48, p_c49, p_c50, p_c51, p_c52, p_c53, p_c54, p_c55, p_c56, p_c57, p_c58, p_c59, p_c60, p_c61, p_c62, p_c63, p_c64, p_c65, p_c66, p_c67, p_c68, p_c69, p_c70, p_c71, p_c72, p_c73, p_c74, p_c75, p_c76, p_c77, p_c78, p_c79, p_c80, p_c81, p_c82, p_c83, p_c84, p_c85, p_c86, p_c87, p_c88, p_c89, p_c90, p_c91, p_c92, p_c93, p_c94, p_c95, p_c96, p_c97, p_c98, p_c99, p_c100]
def p_at (mi pc : Nat) : Option Instr := match p_codes[mi]? with
  | some l => l.lookup pc
  | none => none
def p_ownT : List Nat := [0, 0, 0, 0, 0, 0, 0, 0, 0, 0, 0, 0, 0, 0, 1, 1, 1, 1, 1, 1, 1, 1, 1, 2, 2, 2, 2, 2, 2, 3, 3, 3, 3, 3, 3, 3, 3, 3, 3, 3, 3, 3, 3, 4, 4, 4, 4, 4, 4, 4, 4, 4, 4, 4, 4, 4, 4, 4, 4, 4, 4, 4, 4, 4, 4, 4, 4, 4, 4, 4, 4, 4, 4, 4, 4, 4, 4, 4, 4, 4, 4, 4, 4, 4, 4, 4, 4, 4, 4, 4, 4, 4, 4, 4, 6, 6, 6, 6, 6, 6, 6]
def p_own (mi : Nat) : Nat := p_ownT.getD mi 99
def p_mlT : List Nat := [1, 0, 0, 0, 0, 0, 0, 0, 0, 0, 0, 0, 0, 0, 1, 1, 2, 5, 5, 1, 11, 8, 8, 1, 2, 4, 2, 2, 3, 1, 1, 2, 2, 2, 2, 2, 3, 4, 2, 2, 2, 5, 3, 1, 3, 5, 2, 1, 3, 2, 2, 2, 2, 1, 4, 2, 2, 2, 3, 0, 8, 0, 0, 0, 0, 0, 0, 0, 0, 0, 0, 2, 2, 1, 0, 2, 3, 0, 0, 0, 2, 3, 5, 3, 2, 5, 3, 1, 0, 0, 0, 0, 0, 0, 2, 2, 4, 7, 6, 16, 5]
def p_ml (mi : Nat) : Nat := p_mlT.getD mi 0
def p_rtT : List (Option FieldType) := [none, none, none, none, none, none, none, none, none, none, none, none, none, none, none, (some .int), none, none, none, (some .int), none, (some .long), (some .long), none, (some .long), none, (some .long), none, none, none, (some .int), none, (some .boolean), (some .boolean), (some .boolean), none, none, (some .boolean), (some .int), (some .int), (some .int), (some .int), (some .int), none, (some .int), (some .long), (some .long), (some .int), (some .int), (some .int), (some .int), (some .boolean), (some .boolean), (some .int), (some .int), (some .int), (some .int), (some .int), (some .long), none, (some .long), none, none, none, none, none, none, none, none, none, none, none, none, none, none, none, none, none, none, none, none, (some .int), (some .int), none, none, (some .int), (some .int), none, none, none, none, none, none, none, (some .int), (some .int), (some .boolean), (some .boolean), (some .boolean), (some .boolean), (some .boolean)]
def p_rt (mi : Nat) : Option FieldType := p_rtT.getD mi none
def p_rFT : List Nat := [0, 0, 0, 0, 0, 0, 0, 0, 0, 0, 0, 0, 0, 0, 0, 0, 0, 2, 2, 0, 1, 0, 0, 0, 0, 0, 1, 0, 1, 0, 0, 3, 1, 0, 2, 0, 2, 1, 0, 1, 2, 3, 0, 0, 6, 8, 8, 1, 7, 7, 7, 2, 7, 1, 6, 7, 6, 7, 7, 0, 7, 0, 0, 0, 0, 0, 0, 0, 0, 0, 0, 6, 6, 6, 0, 7, 6, 0, 0, 0, 3, 4, 3, 4, 5, 3, 0, 4, 0, 0, 0, 0, 0, 0, 0, 0, 9, 8, 8, 10, 11]
def p_rF (mi : Nat) : Nat := p_rFT.getD mi 0
def p_rLT : List Nat := [0, 0, 0, 0, 0, 0, 0, 0, 0, 0, 0, 0, 0, 0, 0, 0, 0, 57, 57, 0, 27, 0, 0, 0, 0, 0, 24, 0, 21, 0, 0, 66, 21, 0, 42, 0, 44, 21, 0, 21, 42, 63, 0, 0, 87, 125, 125, 20, 102, 103, 127, 42, 103, 22, 87, 103, 148, 103, 104, 0, 104, 0, 0, 0, 0, 0, 0, 0, 0, 0, 0, 82, 82, 82, 0, 104, 82, 0, 0, 0, 81, 105, 81, 102, 127, 63, 0, 105, 0, 0, 0, 0, 0, 0, 0, 0, 146, 124, 131, 169, 204]
def p_rL (mi : Nat) : Nat := p_rLT.getD mi 0
def p_virtT : List Bool := [true, true, true, true, true, true, true, true, true, true, true, true, true, true, true, true, true, true, true, true, true, true, true, true, true, true, true, true, true, true, true, true, true, true, true, true, true, true, true, true, true, true, true, true, true, true, true, true, true, true, true, true, true, true, true, true, true, true, true, true, true, true, true, true, true, true, true, true, true, true, true, true, true, true, true, true, true, true, true, true, true, true, true, true, true, true, false, true, true, true, true, true, true, true, false, false, false, false, false, false, false]
def p_virt (mi : Nat) : Bool := p_virtT.getD mi false
def p_hhT : List (List (Nat × Nat × Nat × Nat)) := [[], [], [], [], [], [], [], [], [], [], [], [], [], [], [], [], [], [], [], [], [], [], [], [], [], [], [], [], [], [], [], [], [], [], [], [], [], [], [], [], [], [], [], [], [], [], [], [], [], [], [], [], [], [], [], [], [], [], [], [], [], [], [], [], [], [], [], [], [], [], [], [], [], [], [], [], [], [], [], [], [], [], [], [], [], [], [], [], [], [], [], [], [], [], [], [], [], [], [], [], []]
def p_hh (mi : Nat) : List (Nat × Nat × Nat × Nat) := p_hhT.getD mi []
def p_yT : List MethodName := [yX0_init, yX0_init, yX0_init, yX0_init, yX0_init, yX0_init, yX0_init, yX0_init, yX0_init, yX0_init, yX0_init, yX0_init, yX0_init, yX0_init, yX1_init, yX1_wavelet, yX1_use, yX1_divide, yX1_unite, yX1_steps, yX1_lift, yX1_oddChange, yX1_evenChange, yX2_init, yX2_get, yX2_set, yX2_magnitude, yX2_clear, yX2_copy, yX3_init, yX3_width, yX3_plant, yX3_exists, yX3_hasChildren, yX3_canBeSplit, yX3_giveChildren, yX3_takeChildren, yX3_isWithin, yX3_levelOf, yX3_widthOf, yX3_startOf, yX3_leafOver, yX3_leafCount, yX4_init, yX4_begin, yX4_setSample, yX4_sample, yX4_length, yX4_setWavelet, yX4_split, yX4_join, yX4_isNode, yX4_isLeaf, yX4_leaves, yX4_leafAt, yX4_costOf, yX4_chooseBasis, yX4_sizeOf, yX4_number, yX0_init, yX4_filtered, yX0_init, yX0_init, yX0_init, yX0_init, yX0_init, yX0_init, yX0_init, yX0_init, yX0_init, yX0_init, yX4_requireNode, yX4_requireLeaf, yX4_requireUnsplitRoot, yX0_init, yX4_requirePlaceInSignal, yX4_requirePlaceBelow, yX0_init, yX0_init, yX0_init, yX4_splitLeaf, yX4_joinBranch, yX4_uniteBranch, yX4_splitNodesBelow, yX4_joinWhereLeafCostsNoMore, yX4_branchCost, yX4_digits, yX4_gatherSamples, yX0_init, yX0_init, yX0_init, yX0_init, yX0_init, yX0_init, yL_cell, yL_at, yL_back, yL_covers, yL_splits, yL_signal, yL_law]
def p_y (mi : Nat) : MethodName := p_yT.getD mi yX0_init
def p_bT : List ByteArray := [cX0_init, cX0_init, cX0_init, cX0_init, cX0_init, cX0_init, cX0_init, cX0_init, cX0_init, cX0_init, cX0_init, cX0_init, cX0_init, cX0_init, cX1_init, cX1_wavelet, cX1_use, cX1_divide, cX1_unite, cX1_steps, cX1_lift, cX1_oddChange, cX1_evenChange, cX2_init, cX2_get, cX2_set, cX2_magnitude, cX2_clear, cX2_copy, cX3_init, cX3_width, cX3_plant, cX3_exists, cX3_hasChildren, cX3_canBeSplit, cX3_giveChildren, cX3_takeChildren, cX3_isWithin, cX3_levelOf, cX3_widthOf, cX3_startOf, cX3_leafOver, cX3_leafCount, cX4_init, cX4_begin, cX4_setSample, cX4_sample, cX4_length, cX4_setWavelet, cX4_split, cX4_join, cX4_isNode, cX4_isLeaf, cX4_leaves, cX4_leafAt, cX4_costOf, cX4_chooseBasis, cX4_sizeOf, cX4_number, cX0_init, cX4_filtered, cX0_init, cX0_init, cX0_init, cX0_init, cX0_init, cX0_init, cX0_init, cX0_init, cX0_init, cX0_init, cX4_requireNode, cX4_requireLeaf, cX4_requireUnsplitRoot, cX0_init, cX4_requirePlaceInSignal, cX4_requirePlaceBelow, cX0_init, cX0_init, cX0_init, cX4_splitLeaf, cX4_joinBranch, cX4_uniteBranch, cX4_splitNodesBelow, cX4_joinWhereLeafCostsNoMore, cX4_branchCost, cX4_digits, cX4_gatherSamples, cX0_init, cX0_init, cX0_init, cX0_init, cX0_init, cX0_init, cL_cell, cL_at, cL_back, cL_covers, cL_splits, cL_signal, cL_law]
def p_b (mi : Nat) : ByteArray := p_bT.getD mi cX0_init
def p_nmT : List String := [RX0, RX1, RX2, RX3, RX4, RX5, RL]
def p_nm (o : Nat) : String := p_nmT.getD o ""
def p_obs : List ((Nat × Nat) ⊕ (Nat × List (Option Nat))) := [.inr (4, [some 1, some 2, some 4, some 3, some 5, some 6, some 7, some 19]), .inr (3, [some 18, none]), .inr (1, [some 8, none]), .inr (0, [some 9, some 10, some 20, some 21, some 22, none, none, none]), .inr (2, [some 11]), .inr (2, [some 12]), .inr (2, [some 13]), .inr (2, [some 14]), .inr (2, [some 15]), .inr (2, [some 16]), .inr (2, [some 17]), .inl (2, 32), .inl (2, 32), .inl (2, 32), .inl (2, 32), .inl (2, 32), .inl (2, 32), .inl (2, 32), .inl (3, 8), .inl (1, 8), .inl (0, 4038), .inl (0, 4038), .inl (0, 4038), .inl (1, 32), .inl (2, 16)]
-- object 0: x
-- object 1: tree
-- object 2: lifting
-- object 3: code
-- object 4: numbers
-- object 5: samples
-- object 6: told
-- object 7: brought
-- object 8: mixed
-- object 9: row
-- object 10: reach
-- object 11: a_numbers
-- object 12: a_samples
-- object 13: a_told
-- object 14: a_brought
-- object 15: a_mixed
-- object 16: a_row
-- object 17: a_reach
-- object 18: parents
-- object 19: costAsLeaf
-- object 20: bits
-- object 21: toldPlaces
-- object 22: toldPlanes
-- object 23: had
-- object 24: f
def p_fldT : List ((Nat × Nat) × (Nat × Nat)) := [((0, 14), (0, 0)), ((0, 18), (0, 1)), ((0, 21), (0, 2)), ((0, 25), (0, 3)), ((0, 28), (0, 4)), ((1, 12), (1, 0)), ((1, 18), (1, 1)), ((2, 9), (2, 0)), ((3, 9), (3, 0)), ((3, 15), (3, 1)), ((4, 10), (4, 0)), ((4, 19), (4, 1)), ((4, 26), (4, 2)), ((4, 33), (4, 3)), ((4, 37), (4, 4)), ((4, 40), (4, 5)), ((4, 43), (4, 6)), ((4, 46), (4, 7))]
def p_fld (o i : Nat) : Option (Nat × Nat) := p_fldT.lookup (o, i)
def p_invT : List ((Nat × Nat) × (Nat × Nat × Nat)) := [((1, 22), (1, 28, 2)), ((1, 26), (1, 24, 2)), ((1, 30), (1, 25, 3)), ((1, 34), (1, 19, 1)), ((1, 38), (1, 20, 6)), ((1, 42), (1, 21, 4)), ((1, 46), (1, 22, 4)), ((2, 15), (1, 24, 2)), ((2, 19), (0, 0, 0)), ((3, 19), (1, 36, 2)), ((3, 23), (1, 33, 2)), ((3, 27), (1, 32, 2)), ((3, 30), (1, 39, 2)), ((3, 34), (1, 37, 3)), ((3, 38), (1, 38, 2)), ((3, 41), (1, 40, 2)), ((4, 57), (1, 30, 1)), ((4, 61), (1, 31, 2)), ((4, 65), (1, 27, 1)), ((4, 68), (1, 75, 2)), ((4, 73), (1, 73, 1)), ((4, 76), (1, 24, 2)), ((4, 80), (1, 25, 3)), ((4, 84), (1, 87, 1)), ((4, 89), (1, 15, 1)), ((4, 92), (1, 16, 2)), ((4, 95), (1, 71, 2)), ((4, 98), (1, 34, 2)), ((4, 107), (1, 80, 2)), ((4, 110), (1, 39, 2)), ((4, 114), (1, 33, 2)), ((4, 119), (1, 81, 2)), ((4, 122), (1, 32, 2)), ((4, 125), (1, 42, 1)), ((4, 133), (1, 41, 2)), ((4, 136), (1, 85, 2)), ((4, 141), (1, 83, 2)), ((4, 144), (1, 84, 1)), ((4, 147), (1, 72, 2)), ((4, 150), (1, 76, 3)), ((4, 154), (1, 40, 2)), ((4, 179), (1, 26, 2)), ((4, 235), (1, 17, 4)), ((4, 239), (1, 35, 2)), ((4, 242), (1, 82, 3)), ((4, 246), (1, 36, 2)), ((4, 249), (1, 37, 3)), ((4, 253), (1, 18, 4)), ((4, 256), (1, 86, 1)), ((4, 260), (1, 28, 2)), ((6, 8), (1, 46, 2)), ((6, 14), (1, 53, 1)), ((6, 18), (1, 54, 2)), ((6, 22), (1, 52, 2)), ((6, 26), (1, 57, 2)), ((6, 29), (1, 55, 2)), ((6, 32), (1, 60, 3)), ((6, 36), (1, 49, 2)), ((6, 39), (1, 58, 3)), ((6, 42), (1, 95, 2)), ((6, 48), (1, 47, 1)), ((6, 51), (1, 44, 2)), ((6, 54), (1, 48, 2)), ((6, 58), (1, 45, 3)), ((6, 61), (1, 51, 2)), ((6, 64), (1, 98, 4)), ((6, 68), (1, 97, 2)), ((6, 72), (1, 96, 3)), ((6, 76), (1, 50, 2)), ((6, 79), (1, 56, 2)), ((6, 83), (1, 94, 2)), ((6, 87), (1, 99, 5))]
def p_inv (o i : Nat) : Option (Nat × Nat × Nat) := p_invT.lookup (o, i)
def p_cIT : List ((Nat × Nat) × Int32) := [((6, 7), 1372054441), ((6, 57), 2147483647)]
def p_cI (o i : Nat) : Option Int32 := p_cIT.lookup (o, i)
def p_cJT : List ((Nat × Nat) × Int64) := [((1, 49), -6497), ((1, 51), 3616), ((1, 53), 2048), ((1, 55), 2), ((1, 57), -217), ((1, 59), 1817), ((4, 163), 2)]
def p_cJ (o i : Nat) : Option Int64 := p_cJT.lookup (o, i)
def p_thrT : List ((Nat × Nat × Nat × Nat) × Nat) := [((4, 50, 52, 54), 0), ((4, 50, 71, 54), 0), ((4, 50, 87, 54), 0), ((4, 50, 139, 54), 0), ((4, 102, 104, 106), 1), ((4, 102, 117, 106), 1), ((4, 102, 161, 106), 1), ((4, 102, 217, 106), 1), ((4, 102, 219, 106), 1), ((4, 128, 130, 132), 2), ((4, 128, 215, 132), 2), ((4, 128, 227, 132), 2)]
def p_thr (o ik is ic : Nat) : Option Nat := p_thrT.lookup (o, ik, is, ic)
def p_hdT : List ((Nat × Nat × Nat) × (Nat × Nat × Int32)) := []
def p_hd (mi pc E : Nat) : Option (Nat × Nat × Int32) := p_hdT.lookup (mi, pc, E)
def p_lawI : Nat := 100
def p_lawG : Nat := 9999
abbrev p_M : Nat := 25
