/-! THE METHODS' BLOCKS (printed by wip/whole/gen14.py) -/
def bX0_init_0 (X : jX) : jK := i_mask [true] <| i_aload 0 <| i_objInit <| i_aload 0 <| i_push (.int 10) <| i_newI X <| i_putR 0 0 <| i_aload 0 <| i_push (.int 10) <| i_newI X <| i_putR 0 1 <| i_aload 0 <| i_push (.int 10) <| i_newI X <| i_putR 0 2 <| i_aload 0 <| i_push (.int 10) <| i_newI X <| i_putR 0 3 <| i_aload 0 <| i_push (.int 10) <| i_newI X <| i_putR 0 5 <| i_return X
def pX0_init : jX → Nat → jK := fun X => jpick [(0, bX0_init_0 X)]
def mX0_init : jMt := (yX0_init, cX0_init, 1, none, pX0_init)
def bX0_add_0 (X : jX) : jK := i_mask [true, true, true, true, true] <| i_aload 0 <| i_getf 0 0 <| i_aload 0 <| i_getf 0 4 <| i_iload 1 <| i_iast <| i_aload 0 <| i_getf 0 1 <| i_aload 0 <| i_getf 0 4 <| i_iload 2 <| i_iast <| i_aload 0 <| i_getf 0 2 <| i_aload 0 <| i_getf 0 4 <| i_iload 3 <| i_iast <| i_aload 0 <| i_getf 0 3 <| i_aload 0 <| i_getf 0 4 <| i_iload 4 <| i_iast <| i_aload 0 <| i_dup <| i_getf 0 4 <| i_push (.int 1) <| i_iadd <| i_putI 0 4 <| i_aload 0 <| i_getf 0 4 <| i_push (.int 1) <| i_isub <| i_ireturn X
def pX0_add : jX → Nat → jK := fun X => jpick [(0, bX0_add_0 X)]
def mX0_add : jMt := (yX0_add, cX0_add, 5, (some .int), pX0_add)
def bX0_meetingOf_0 (X : jX) : jK := i_mask [true, true, false, false, false, false, false] <| i_push (.int 1) <| i_iload 1 <| i_ishl <| i_istore 2 <| i_push (.int 1) <| i_istore 3 <| i_push (.int 0) <| i_istore 4 <| i_mask [true, false, true, true, true, false, false] <| i_goto X 9
def bX0_meetingOf_9 (X : jX) : jK := i_mask [true, false, true, true, true, false, false] <| i_iload 4 <| i_push (.int 10) <| i_cmp_ge X 77 16
def bX0_meetingOf_16 (X : jX) : jK := i_mask [true, false, true, true, true, false, false] <| i_iload 3 <| i_if_eq X 77 20
def bX0_meetingOf_20 (X : jX) : jK := i_mask [true, false, true, false, true, false, false] <| i_iload 2 <| i_istore 5 <| i_push (.int 0) <| i_istore 6 <| i_mask [true, false, true, false, true, true, true] <| i_goto X 26
def bX0_meetingOf_26 (X : jX) : jK := i_mask [true, false, true, false, true, true, true] <| i_iload 6 <| i_aload 0 <| i_getf 0 4 <| i_cmp_ge X 59 35
def bX0_meetingOf_35 (X : jX) : jK := i_mask [true, false, true, false, true, true, true] <| i_iload 2 <| i_iload 6 <| i_ishr <| i_push (.int 1) <| i_iand <| i_if_eq X 53 44
def bX0_meetingOf_44 (X : jX) : jK := i_mask [true, false, true, false, true, true, true] <| i_iload 2 <| i_aload 0 <| i_iload 6 <| i_invV X 3 1 0 <| i_ior <| i_istore 2 <| i_mask [true, false, true, false, true, true, true] <| i_goto X 53
def bX0_meetingOf_53 (X : jX) : jK := i_mask [true, false, true, false, true, true, true] <| i_iinc 6 1 <| i_mask [true, false, true, false, true, true, true] <| i_goto X 26
def bX0_meetingOf_59 (X : jX) : jK := i_mask [true, false, true, false, true, true, false] <| i_iload 2 <| i_iload 5 <| i_cmp_eq X 69 65
def bX0_meetingOf_65 (X : jX) : jK := i_mask [true, false, true, false, true, false, false] <| i_push (.int 1) <| i_mask [true, false, true, false, true, false, false] <| i_goto X 70
def bX0_meetingOf_69 (X : jX) : jK := i_mask [true, false, true, false, true, false, false] <| i_push (.int 0) <| i_mask [true, false, true, false, true, false, false] <| i_goto X 70
def bX0_meetingOf_70 (X : jX) : jK := i_mask [true, false, true, false, true, false, false] <| i_istore 3 <| i_iinc 4 1 <| i_mask [true, false, true, true, true, false, false] <| i_goto X 9
def bX0_meetingOf_77 (X : jX) : jK := i_mask [false, false, true, false, false, false, false] <| i_iload 2 <| i_ireturn X
def pX0_meetingOf : jX → Nat → jK := fun X => jpick [(0, bX0_meetingOf_0 X), (9, bX0_meetingOf_9 X), (16, bX0_meetingOf_16 X), (20, bX0_meetingOf_20 X), (26, bX0_meetingOf_26 X), (35, bX0_meetingOf_35 X), (44, bX0_meetingOf_44 X), (53, bX0_meetingOf_53 X), (59, bX0_meetingOf_59 X), (65, bX0_meetingOf_65 X), (69, bX0_meetingOf_69 X), (70, bX0_meetingOf_70 X), (77, bX0_meetingOf_77 X)]
def mX0_meetingOf : jMt := (yX0_meetingOf, cX0_meetingOf, 7, (some .int), pX0_meetingOf)
def bX0_closeTo_0 (X : jX) : jK := i_mask [true, true, false, false] <| i_push (.int 0) <| i_istore 2 <| i_push (.int 0) <| i_istore 3 <| i_mask [true, true, true, true] <| i_goto X 4
def bX0_closeTo_4 (X : jX) : jK := i_mask [true, true, true, true] <| i_iload 3 <| i_aload 0 <| i_getf 0 4 <| i_cmp_ge X 59 12
def bX0_closeTo_12 (X : jX) : jK := i_mask [true, true, true, true] <| i_aload 0 <| i_getf 0 0 <| i_iload 3 <| i_iald <| i_aload 0 <| i_getf 0 0 <| i_iload 1 <| i_iald <| i_cmp_ne X 53 27
def bX0_closeTo_27 (X : jX) : jK := i_mask [true, true, true, true] <| i_aload 0 <| i_iload 3 <| i_iload 1 <| i_invV X 4 2 0 <| i_push (.int 1) <| i_cmp_gt X 53 37
def bX0_closeTo_37 (X : jX) : jK := i_mask [true, true, true, true] <| i_aload 0 <| i_iload 3 <| i_iload 1 <| i_invV X 5 2 0 <| i_push (.int 2) <| i_cmp_gt X 53 47
def bX0_closeTo_47 (X : jX) : jK := i_mask [true, true, true, true] <| i_iload 2 <| i_push (.int 1) <| i_iload 3 <| i_ishl <| i_ior <| i_istore 2 <| i_mask [true, true, true, true] <| i_goto X 53
def bX0_closeTo_53 (X : jX) : jK := i_mask [true, true, true, true] <| i_iinc 3 1 <| i_mask [true, true, true, true] <| i_goto X 4
def bX0_closeTo_59 (X : jX) : jK := i_mask [false, false, true, false] <| i_iload 2 <| i_ireturn X
def pX0_closeTo : jX → Nat → jK := fun X => jpick [(0, bX0_closeTo_0 X), (4, bX0_closeTo_4 X), (12, bX0_closeTo_12 X), (27, bX0_closeTo_27 X), (37, bX0_closeTo_37 X), (47, bX0_closeTo_47 X), (53, bX0_closeTo_53 X), (59, bX0_closeTo_59 X)]
def mX0_closeTo : jMt := (yX0_closeTo, cX0_closeTo, 4, (some .int), pX0_closeTo)
def bX0_daysBetween_0 (X : jX) : jK := i_mask [true, true, true] <| i_aload 0 <| i_getf 0 1 <| i_iload 1 <| i_iald <| i_aload 0 <| i_getf 0 1 <| i_iload 2 <| i_iald <| i_isub <| i_mabs X <| i_ireturn X
def pX0_daysBetween : jX → Nat → jK := fun X => jpick [(0, bX0_daysBetween_0 X)]
def mX0_daysBetween : jMt := (yX0_daysBetween, cX0_daysBetween, 3, (some .int), pX0_daysBetween)
def bX0_cellsBetween_0 (X : jX) : jK := i_mask [true, true, true] <| i_aload 0 <| i_getf 0 2 <| i_iload 1 <| i_iald <| i_aload 0 <| i_getf 0 2 <| i_iload 2 <| i_iald <| i_isub <| i_mabs X <| i_ireturn X
def pX0_cellsBetween : jX → Nat → jK := fun X => jpick [(0, bX0_cellsBetween_0 X)]
def mX0_cellsBetween : jMt := (yX0_cellsBetween, cX0_cellsBetween, 3, (some .int), pX0_cellsBetween)
def bX0_meetingsOf_0 (X : jX) : jK := i_mask [true, true, false, false, false] <| i_push (.int 0) <| i_istore 2 <| i_push (.int 0) <| i_istore 3 <| i_push (.int 0) <| i_istore 4 <| i_mask [true, true, true, true, true] <| i_goto X 7
def bX0_meetingsOf_7 (X : jX) : jK := i_mask [true, true, true, true, true] <| i_iload 4 <| i_aload 0 <| i_getf 0 4 <| i_cmp_ge X 54 16
def bX0_meetingsOf_16 (X : jX) : jK := i_mask [true, true, true, true, true] <| i_aload 0 <| i_getf 0 0 <| i_iload 4 <| i_iald <| i_iload 1 <| i_cmp_ne X 48 27
def bX0_meetingsOf_27 (X : jX) : jK := i_mask [true, true, true, true, true] <| i_iload 2 <| i_iload 4 <| i_ishr <| i_push (.int 1) <| i_iand <| i_if_ne X 48 36
def bX0_meetingsOf_36 (X : jX) : jK := i_mask [true, true, true, true, true] <| i_iload 2 <| i_aload 0 <| i_iload 4 <| i_invV X 2 1 0 <| i_ior <| i_istore 2 <| i_iinc 3 1 <| i_mask [true, true, true, true, true] <| i_goto X 48
def bX0_meetingsOf_48 (X : jX) : jK := i_mask [true, true, true, true, true] <| i_iinc 4 1 <| i_mask [true, true, true, true, true] <| i_goto X 7
def bX0_meetingsOf_54 (X : jX) : jK := i_mask [false, false, false, true, false] <| i_iload 3 <| i_ireturn X
def pX0_meetingsOf : jX → Nat → jK := fun X => jpick [(0, bX0_meetingsOf_0 X), (7, bX0_meetingsOf_7 X), (16, bX0_meetingsOf_16 X), (27, bX0_meetingsOf_27 X), (36, bX0_meetingsOf_36 X), (48, bX0_meetingsOf_48 X), (54, bX0_meetingsOf_54 X)]
def mX0_meetingsOf : jMt := (yX0_meetingsOf, cX0_meetingsOf, 5, (some .int), pX0_meetingsOf)
def bX0_reportsOf_0 (X : jX) : jK := i_mask [true, true, false, false] <| i_push (.int 0) <| i_istore 2 <| i_push (.int 0) <| i_istore 3 <| i_mask [true, true, true, true] <| i_goto X 4
def bX0_reportsOf_4 (X : jX) : jK := i_mask [true, true, true, true] <| i_iload 3 <| i_aload 0 <| i_getf 0 4 <| i_cmp_ge X 34 12
def bX0_reportsOf_12 (X : jX) : jK := i_mask [true, true, true, true] <| i_aload 0 <| i_getf 0 0 <| i_iload 3 <| i_iald <| i_iload 1 <| i_cmp_ne X 28 22
def bX0_reportsOf_22 (X : jX) : jK := i_mask [true, true, true, true] <| i_iload 2 <| i_push (.int 1) <| i_iload 3 <| i_ishl <| i_ior <| i_istore 2 <| i_mask [true, true, true, true] <| i_goto X 28
def bX0_reportsOf_28 (X : jX) : jK := i_mask [true, true, true, true] <| i_iinc 3 1 <| i_mask [true, true, true, true] <| i_goto X 4
def bX0_reportsOf_34 (X : jX) : jK := i_mask [false, false, true, false] <| i_iload 2 <| i_ireturn X
def pX0_reportsOf : jX → Nat → jK := fun X => jpick [(0, bX0_reportsOf_0 X), (4, bX0_reportsOf_4 X), (12, bX0_reportsOf_12 X), (22, bX0_reportsOf_22 X), (28, bX0_reportsOf_28 X), (34, bX0_reportsOf_34 X)]
def mX0_reportsOf : jMt := (yX0_reportsOf, cX0_reportsOf, 4, (some .int), pX0_reportsOf)
def bX0_falseOf_0 (X : jX) : jK := i_mask [true, true, true, false, false, false, false] <| i_aload 0 <| i_iload 2 <| i_invV X 9 1 0 <| i_aload 0 <| i_iload 1 <| i_invV X 7 1 0 <| i_istore 3 <| i_iload 3 <| i_istore 4 <| i_iload 3 <| i_invS X 273 1 <| i_istore 5 <| i_push (.int 0) <| i_istore 6 <| i_mask [true, false, false, true, true, true, true] <| i_goto X 23
def bX0_falseOf_23 (X : jX) : jK := i_mask [true, false, false, true, true, true, true] <| i_iload 6 <| i_iload 3 <| i_cmp_ge X 78 29
def bX0_falseOf_29 (X : jX) : jK := i_mask [true, false, false, true, true, true, true] <| i_iload 6 <| i_iload 3 <| i_push (.int (-1)) <| i_ixor <| i_iand <| i_if_ne X 72 38
def bX0_falseOf_38 (X : jX) : jK := i_mask [true, false, false, true, true, true, true] <| i_iload 6 <| i_invS X 273 1 <| i_iload 5 <| i_cmp_ge X 72 48
def bX0_falseOf_48 (X : jX) : jK := i_mask [true, false, false, true, true, true, true] <| i_aload 0 <| i_iload 3 <| i_iload 6 <| i_push (.int (-1)) <| i_ixor <| i_iand <| i_invV X 10 1 0 <| i_if_eq X 72 61
def bX0_falseOf_61 (X : jX) : jK := i_mask [true, false, false, true, false, false, true] <| i_iload 6 <| i_istore 4 <| i_iload 6 <| i_invS X 273 1 <| i_istore 5 <| i_mask [true, false, false, true, true, true, true] <| i_goto X 72
def bX0_falseOf_72 (X : jX) : jK := i_mask [true, false, false, true, true, true, true] <| i_iinc 6 1 <| i_mask [true, false, false, true, true, true, true] <| i_goto X 23
def bX0_falseOf_78 (X : jX) : jK := i_mask [false, false, false, false, true, false, false] <| i_iload 4 <| i_ireturn X
def pX0_falseOf : jX → Nat → jK := fun X => jpick [(0, bX0_falseOf_0 X), (23, bX0_falseOf_23 X), (29, bX0_falseOf_29 X), (38, bX0_falseOf_38 X), (48, bX0_falseOf_48 X), (61, bX0_falseOf_61 X), (72, bX0_falseOf_72 X), (78, bX0_falseOf_78 X)]
def mX0_falseOf : jMt := (yX0_falseOf, cX0_falseOf, 7, (some .int), pX0_falseOf)
def bX0_findClashes_0 (X : jX) : jK := i_mask [true, true, false, false] <| i_push (.int 0) <| i_istore 2 <| i_mask [true, true, true, false] <| i_goto X 2
def bX0_findClashes_2 (X : jX) : jK := i_mask [true, true, true, false] <| i_iload 2 <| i_aload 0 <| i_getf 0 4 <| i_cmp_ge X 68 10
def bX0_findClashes_10 (X : jX) : jK := i_mask [true, true, true, false] <| i_aload 0 <| i_getf 0 5 <| i_iload 2 <| i_push (.int 0) <| i_iast <| i_push (.int 0) <| i_istore 3 <| i_mask [true, true, true, true] <| i_goto X 19
def bX0_findClashes_19 (X : jX) : jK := i_mask [true, true, true, true] <| i_iload 3 <| i_aload 0 <| i_getf 0 4 <| i_cmp_ge X 62 27
def bX0_findClashes_27 (X : jX) : jK := i_mask [true, true, true, true] <| i_aload 0 <| i_iload 2 <| i_iload 3 <| i_invV X 5 2 0 <| i_iload 1 <| i_aload 0 <| i_iload 2 <| i_iload 3 <| i_invV X 4 2 0 <| i_imul <| i_cmp_le X 56 44
def bX0_findClashes_44 (X : jX) : jK := i_mask [true, true, true, true] <| i_aload 0 <| i_getf 0 5 <| i_iload 2 <| i_dup2 <| i_iald <| i_push (.int 1) <| i_iload 3 <| i_ishl <| i_ior <| i_iast <| i_mask [true, true, true, true] <| i_goto X 56
def bX0_findClashes_56 (X : jX) : jK := i_mask [true, true, true, true] <| i_iinc 3 1 <| i_mask [true, true, true, true] <| i_goto X 19
def bX0_findClashes_62 (X : jX) : jK := i_mask [true, true, true, false] <| i_iinc 2 1 <| i_mask [true, true, true, false] <| i_goto X 2
def bX0_findClashes_68 (X : jX) : jK := i_mask [false, false, false, false] <| i_return X
def pX0_findClashes : jX → Nat → jK := fun X => jpick [(0, bX0_findClashes_0 X), (2, bX0_findClashes_2 X), (10, bX0_findClashes_10 X), (19, bX0_findClashes_19 X), (27, bX0_findClashes_27 X), (44, bX0_findClashes_44 X), (56, bX0_findClashes_56 X), (62, bX0_findClashes_62 X), (68, bX0_findClashes_68 X)]
def mX0_findClashes : jMt := (yX0_findClashes, cX0_findClashes, 4, none, pX0_findClashes)
def bX0_agree_0 (X : jX) : jK := i_mask [true, true, false] <| i_push (.int 0) <| i_istore 2 <| i_mask [true, true, true] <| i_goto X 2
def bX0_agree_2 (X : jX) : jK := i_mask [true, true, true] <| i_iload 2 <| i_aload 0 <| i_getf 0 4 <| i_cmp_ge X 37 10
def bX0_agree_10 (X : jX) : jK := i_mask [true, true, true] <| i_iload 1 <| i_iload 2 <| i_ishr <| i_push (.int 1) <| i_iand <| i_if_eq X 31 18
def bX0_agree_18 (X : jX) : jK := i_mask [true, true, true] <| i_aload 0 <| i_getf 0 5 <| i_iload 2 <| i_iald <| i_iload 1 <| i_iand <| i_if_eq X 31 29
def bX0_agree_29 (X : jX) : jK := i_mask [false, false, false] <| i_push (.int 0) <| i_ireturn X
def bX0_agree_31 (X : jX) : jK := i_mask [true, true, true] <| i_iinc 2 1 <| i_mask [true, true, true] <| i_goto X 2
def bX0_agree_37 (X : jX) : jK := i_mask [false, false, false] <| i_push (.int 1) <| i_ireturn X
def pX0_agree : jX → Nat → jK := fun X => jpick [(0, bX0_agree_0 X), (2, bX0_agree_2 X), (10, bX0_agree_10 X), (18, bX0_agree_18 X), (29, bX0_agree_29 X), (31, bX0_agree_31 X), (37, bX0_agree_37 X)]
def mX0_agree : jMt := (yX0_agree, cX0_agree, 3, (some .boolean), pX0_agree)
def bX0_trueOf_0 (X : jX) : jK := i_mask [true, true, true] <| i_aload 0 <| i_iload 1 <| i_invV X 7 1 0 <| i_aload 0 <| i_iload 1 <| i_iload 2 <| i_invV X 8 2 0 <| i_push (.int (-1)) <| i_ixor <| i_iand <| i_ireturn X
def pX0_trueOf : jX → Nat → jK := fun X => jpick [(0, bX0_trueOf_0 X)]
def mX0_trueOf : jMt := (yX0_trueOf, cX0_trueOf, 3, (some .int), pX0_trueOf)
def bX0_cellsOf_0 (X : jX) : jK := i_mask [true, true, true, true, false, false, false, false] <| i_aload 0 <| i_iload 1 <| i_iload 2 <| i_invV X 11 2 0 <| i_istore 4 <| i_push (.long 0) <| i_lstore 5 <| i_push (.int 0) <| i_istore 7 <| i_mask [true, false, true, true, true, true, false, true] <| i_goto X 14
def bX0_cellsOf_14 (X : jX) : jK := i_mask [true, false, true, true, true, true, false, true] <| i_iload 7 <| i_push (.int 60) <| i_cmp_gt X 49 21
def bX0_cellsOf_21 (X : jX) : jK := i_mask [true, false, true, true, true, true, false, true] <| i_aload 0 <| i_iload 4 <| i_iload 2 <| i_iload 3 <| i_iload 7 <| i_invV X 13 4 0 <| i_if_eq X 43 34
def bX0_cellsOf_34 (X : jX) : jK := i_mask [true, false, true, true, true, true, false, true] <| i_lload 5 <| i_push (.long 1) <| i_iload 7 <| i_lshl <| i_lor <| i_lstore 5 <| i_mask [true, false, true, true, true, true, false, true] <| i_goto X 43
def bX0_cellsOf_43 (X : jX) : jK := i_mask [true, false, true, true, true, true, false, true] <| i_iinc 7 1 <| i_mask [true, false, true, true, true, true, false, true] <| i_goto X 14
def bX0_cellsOf_49 (X : jX) : jK := i_mask [false, false, false, false, false, true, false, false] <| i_lload 5 <| i_lreturn X
def pX0_cellsOf : jX → Nat → jK := fun X => jpick [(0, bX0_cellsOf_0 X), (14, bX0_cellsOf_14 X), (21, bX0_cellsOf_21 X), (34, bX0_cellsOf_34 X), (43, bX0_cellsOf_43 X), (49, bX0_cellsOf_49 X)]
def mX0_cellsOf : jMt := (yX0_cellsOf, cX0_cellsOf, 8, (some .long), pX0_cellsOf)
def bX0_mayBe_0 (X : jX) : jK := i_mask [true, true, true, true, true, false] <| i_push (.int 0) <| i_istore 5 <| i_mask [true, true, true, true, true, true] <| i_goto X 3
def bX0_mayBe_3 (X : jX) : jK := i_mask [true, true, true, true, true, true] <| i_iload 5 <| i_aload 0 <| i_getf 0 4 <| i_cmp_ge X 59 12
def bX0_mayBe_12 (X : jX) : jK := i_mask [true, true, true, true, true, true] <| i_iload 1 <| i_iload 5 <| i_ishr <| i_push (.int 1) <| i_iand <| i_if_eq X 53 21
def bX0_mayBe_21 (X : jX) : jK := i_mask [true, true, true, true, true, true] <| i_aload 0 <| i_getf 0 2 <| i_iload 5 <| i_iald <| i_iload 4 <| i_isub <| i_mabs X <| i_iload 2 <| i_aload 0 <| i_getf 0 1 <| i_iload 5 <| i_iald <| i_iload 3 <| i_isub <| i_mabs X <| i_imul <| i_cmp_le X 53 51
def bX0_mayBe_51 (X : jX) : jK := i_mask [false, false, false, false, false, false] <| i_push (.int 0) <| i_ireturn X
def bX0_mayBe_53 (X : jX) : jK := i_mask [true, true, true, true, true, true] <| i_iinc 5 1 <| i_mask [true, true, true, true, true, true] <| i_goto X 3
def bX0_mayBe_59 (X : jX) : jK := i_mask [false, false, false, false, false, false] <| i_push (.int 1) <| i_ireturn X
def pX0_mayBe : jX → Nat → jK := fun X => jpick [(0, bX0_mayBe_0 X), (3, bX0_mayBe_3 X), (12, bX0_mayBe_12 X), (21, bX0_mayBe_21 X), (51, bX0_mayBe_51 X), (53, bX0_mayBe_53 X), (59, bX0_mayBe_59 X)]
def mX0_mayBe : jMt := (yX0_mayBe, cX0_mayBe, 6, (some .boolean), pX0_mayBe)
def bX0_latestTrue_0 (X : jX) : jK := i_mask [true, true, true, false, false, false] <| i_aload 0 <| i_iload 1 <| i_iload 2 <| i_invV X 11 2 0 <| i_istore 3 <| i_push (.int (-1)) <| i_istore 4 <| i_push (.int 0) <| i_istore 5 <| i_mask [true, false, false, true, true, true] <| i_goto X 13
def bX0_latestTrue_13 (X : jX) : jK := i_mask [true, false, false, true, true, true] <| i_iload 5 <| i_aload 0 <| i_getf 0 4 <| i_cmp_ge X 63 22
def bX0_latestTrue_22 (X : jX) : jK := i_mask [true, false, false, true, true, true] <| i_iload 3 <| i_iload 5 <| i_ishr <| i_push (.int 1) <| i_iand <| i_if_eq X 57 31
def bX0_latestTrue_31 (X : jX) : jK := i_mask [true, false, false, true, true, true] <| i_iload 4 <| i_if_lt X 53 36
def bX0_latestTrue_36 (X : jX) : jK := i_mask [true, false, false, true, true, true] <| i_aload 0 <| i_getf 0 1 <| i_iload 5 <| i_iald <| i_aload 0 <| i_getf 0 1 <| i_iload 4 <| i_iald <| i_cmp_le X 57 53
def bX0_latestTrue_53 (X : jX) : jK := i_mask [true, false, false, true, false, true] <| i_iload 5 <| i_istore 4 <| i_mask [true, false, false, true, true, true] <| i_goto X 57
def bX0_latestTrue_57 (X : jX) : jK := i_mask [true, false, false, true, true, true] <| i_iinc 5 1 <| i_mask [true, false, false, true, true, true] <| i_goto X 13
def bX0_latestTrue_63 (X : jX) : jK := i_mask [false, false, false, false, true, false] <| i_iload 4 <| i_ireturn X
def pX0_latestTrue : jX → Nat → jK := fun X => jpick [(0, bX0_latestTrue_0 X), (13, bX0_latestTrue_13 X), (22, bX0_latestTrue_22 X), (31, bX0_latestTrue_31 X), (36, bX0_latestTrue_36 X), (53, bX0_latestTrue_53 X), (57, bX0_latestTrue_57 X), (63, bX0_latestTrue_63 X)]
def mX0_latestTrue : jMt := (yX0_latestTrue, cX0_latestTrue, 6, (some .int), pX0_latestTrue)
def bX1_init_0 (X : jX) : jK := i_mask [true] <| i_aload 0 <| i_objInit <| i_aload 0 <| i_new X 4 dsX4 <| i_dup <| i_invI X 31 0 <| i_putR 1 0 <| i_aload 0 <| i_push (.int 6) <| i_push (.int 6) <| i_mna X <| i_putR 1 1 <| i_return X
def pX1_init : jX → Nat → jK := fun X => jpick [(0, bX1_init_0 X)]
def mX1_init : jMt := (yX1_init, cX1_init, 1, none, pX1_init)
def bX1_keep_0 (X : jX) : jK := i_mask [true, true, true] <| i_aload 0 <| i_getf 1 0 <| i_aload 1 <| i_invV X 32 1 4 <| i_aload 0 <| i_aload 2 <| i_getf 9 3 <| i_putI 1 2 <| i_aload 0 <| i_aload 2 <| i_getf 9 1 <| i_aload 0 <| i_getf 1 1 <| i_invV X 18 2 1 <| i_aload 0 <| i_push (.int 1) <| i_putZ 1 3 <| i_return X
def pX1_keep : jX → Nat → jK := fun X => jpick [(0, bX1_keep_0 X)]
def mX1_keep : jMt := (yX1_keep, cX1_keep, 3, none, pX1_keep)
def bX1_giveBack_0 (X : jX) : jK := i_mask [true, true, true] <| i_aload 1 <| i_aload 0 <| i_getf 1 0 <| i_invV X 32 1 4 <| i_aload 0 <| i_aload 0 <| i_getf 1 1 <| i_aload 2 <| i_getf 9 1 <| i_invV X 18 2 1 <| i_return X
def pX1_giveBack : jX → Nat → jK := fun X => jpick [(0, bX1_giveBack_0 X)]
def mX1_giveBack : jMt := (yX1_giveBack, cX1_giveBack, 3, none, pX1_giveBack)
def bX1_copyTaken_0 (X : jX) : jK := i_mask [true, true, true, false] <| i_push (.int 0) <| i_istore 3 <| i_mask [true, true, true, true] <| i_goto X 2
def bX1_copyTaken_2 (X : jX) : jK := i_mask [true, true, true, true] <| i_iload 3 <| i_aload 0 <| i_getf 1 2 <| i_cmp_ge X 31 10
def bX1_copyTaken_10 (X : jX) : jK := i_mask [true, true, true, true] <| i_aload 1 <| i_iload 3 <| i_aald <| i_push (.int 0) <| i_aload 2 <| i_iload 3 <| i_aald <| i_push (.int 0) <| i_aload 0 <| i_getf 1 2 <| i_copy <| i_iinc 3 1 <| i_mask [true, true, true, true] <| i_goto X 2
def bX1_copyTaken_31 (X : jX) : jK := i_mask [false, false, false, false] <| i_return X
def pX1_copyTaken : jX → Nat → jK := fun X => jpick [(0, bX1_copyTaken_0 X), (2, bX1_copyTaken_2 X), (10, bX1_copyTaken_10 X), (31, bX1_copyTaken_31 X)]
def mX1_copyTaken : jMt := (yX1_copyTaken, cX1_copyTaken, 4, none, pX1_copyTaken)
def bX2_init_0 (X : jX) : jK := i_mask [true] <| i_aload 0 <| i_objInit <| i_aload 0 <| i_new X 5 dsX5 <| i_dup <| i_invI X 41 0 <| i_putR 2 0 <| i_aload 0 <| i_push (.int 6) <| i_newI X <| i_putR 2 1 <| i_aload 0 <| i_push (.int 1) <| i_putI 2 2 <| i_aload 0 <| i_push (.int 6) <| i_push (.int 160) <| i_mna X <| i_putR 2 3 <| i_aload 0 <| i_push (.int 6) <| i_push (.int 4) <| i_mna X <| i_putR 2 4 <| i_aload 0 <| i_push (.int 160) <| i_newI X <| i_putR 2 5 <| i_push (.ref 1) <| i_push (.int 0) <| i_aload 0 <| i_getf 2 3 <| i_push (.int 0) <| i_aald <| i_push (.int 0) <| i_push (.ref 1) <| i_alen <| i_copy <| i_push (.ref 2) <| i_push (.int 0) <| i_mask [true] <| i_goto X 83
def bX2_init_83 (X : jX) : jK := i_mask [true] <| i_aload 0 <| i_getf 2 4 <| i_push (.int 0) <| i_aald <| i_push (.int 0) <| i_push (.ref 2) <| i_alen <| i_copy <| i_return X
def pX2_init : jX → Nat → jK := fun X => jpick [(0, bX2_init_0 X), (83, bX2_init_83 X)]
def mX2_init : jMt := (yX2_init, cX2_init, 1, none, pX2_init)
def bX2_add_0 (X : jX) : jK := i_mask [true] <| i_aload 0 <| i_getf 2 0 <| i_getf 5 1 <| i_push (.int 0) <| i_aload 0 <| i_getf 2 3 <| i_aload 0 <| i_getf 2 2 <| i_aald <| i_push (.int 0) <| i_aload 0 <| i_getf 2 0 <| i_getf 5 1 <| i_alen <| i_copy <| i_aload 0 <| i_getf 2 0 <| i_getf 5 2 <| i_push (.int 0) <| i_aload 0 <| i_getf 2 4 <| i_aload 0 <| i_getf 2 2 <| i_aald <| i_push (.int 0) <| i_aload 0 <| i_getf 2 0 <| i_getf 5 2 <| i_alen <| i_copy <| i_aload 0 <| i_dup <| i_getf 2 2 <| i_push (.int 1) <| i_iadd <| i_putI 2 2 <| i_aload 0 <| i_getf 2 2 <| i_push (.int 1) <| i_isub <| i_mask [false] <| i_goto X 74
def bX2_add_74 (X : jX) : jK := i_mask [false] <| i_ireturn X
def pX2_add : jX → Nat → jK := fun X => jpick [(0, bX2_add_0 X), (74, bX2_add_74 X)]
def mX2_add : jMt := (yX2_add, cX2_add, 1, (some .int), pX2_add)
def bX2_says_0 (X : jX) : jK := i_mask [true, true, true, false, false, false, false] <| i_aload 0 <| i_getf 2 3 <| i_iload 1 <| i_aald <| i_astore 3 <| i_push (.int 0) <| i_istore 4 <| i_aload 0 <| i_getf 2 4 <| i_iload 1 <| i_aald <| i_iload 2 <| i_iald <| i_istore 5 <| i_mask [true, true, true, true, true, true, false] <| i_goto X 20
def bX2_says_20 (X : jX) : jK := i_mask [true, true, true, true, true, true, false] <| i_iload 5 <| i_aload 0 <| i_getf 2 4 <| i_iload 1 <| i_aald <| i_iload 2 <| i_push (.int 1) <| i_iadd <| i_iald <| i_cmp_ge X 162 35
def bX2_says_35 (X : jX) : jK := i_mask [true, true, true, true, true, true, false] <| i_aload 3 <| i_iload 5 <| i_iald <| i_istore 6 <| i_iload 6 <| i_push (.int (-6)) <| i_cmp_lt X 90 48
def bX2_says_48 (X : jX) : jK := i_mask [true, true, true, true, true, true, true] <| i_iload 4 <| i_aload 0 <| i_getf 2 5 <| i_alen <| i_cmp_ge X 90 58
def bX2_says_58 (X : jX) : jK := i_mask [true, true, true, true, true, true, true] <| i_aload 0 <| i_getf 2 5 <| i_iload 4 <| i_iload 6 <| i_if_lt X 74 69
def bX2_says_69 (X : jX) : jK := i_mask [true, true, true, true, true, true, true] <| i_iload 6 <| i_mask [true, true, true, true, true, true, false] <| i_goto X 83
def bX2_says_74 (X : jX) : jK := i_mask [true, true, true, true, true, true, true] <| i_aload 0 <| i_getf 2 1 <| i_push (.int (-1)) <| i_iload 6 <| i_isub <| i_iald <| i_mask [true, true, true, true, true, true, false] <| i_goto X 83
def bX2_says_83 (X : jX) : jK := i_mask [true, true, true, true, true, true, false] <| i_iast <| i_iinc 4 1 <| i_mask [true, true, true, true, true, true, false] <| i_goto X 156
def bX2_says_90 (X : jX) : jK := i_mask [true, true, true, true, true, true, true] <| i_iload 6 <| i_push (.int (-13)) <| i_cmp_eq X 104 97
def bX2_says_97 (X : jX) : jK := i_mask [true, true, true, true, true, true, true] <| i_iload 6 <| i_push (.int (-19)) <| i_cmp_ne X 117 104
def bX2_says_104 (X : jX) : jK := i_mask [true, true, true, true, true, true, true] <| i_aload 0 <| i_iload 6 <| i_iload 4 <| i_push (.int 1) <| i_isub <| i_invV X 22 2 2 <| i_mask [true, true, true, true, true, true, false] <| i_goto X 156
def bX2_says_117 (X : jX) : jK := i_mask [true, true, true, true, true, true, true] <| i_iload 4 <| i_push (.int 2) <| i_cmp_lt X 156 123
def bX2_says_123 (X : jX) : jK := i_mask [true, true, true, true, true, true, true] <| i_iinc 4 (-1) <| i_aload 0 <| i_getf 2 5 <| i_iload 4 <| i_push (.int 1) <| i_isub <| i_iload 6 <| i_aload 0 <| i_getf 2 5 <| i_iload 4 <| i_push (.int 1) <| i_isub <| i_iald <| i_aload 0 <| i_getf 2 5 <| i_iload 4 <| i_iald <| i_invS X 23 3 <| i_iast <| i_mask [true, true, true, true, true, true, false] <| i_goto X 156
def bX2_says_156 (X : jX) : jK := i_mask [true, true, true, true, true, true, false] <| i_iinc 5 1 <| i_mask [true, true, true, true, true, true, false] <| i_goto X 20
def bX2_says_162 (X : jX) : jK := i_mask [true, false, true, false, false, false, false] <| i_push (.ref 3) <| i_iload 2 <| i_iald <| i_push (.ref 4) <| i_iload 2 <| i_iald <| i_aload 0 <| i_getf 2 5 <| i_push (.int 0) <| i_iald <| i_mmin X <| i_mmax X <| i_ireturn X
def pX2_says : jX → Nat → jK := fun X => jpick [(0, bX2_says_0 X), (20, bX2_says_20 X), (35, bX2_says_35 X), (48, bX2_says_48 X), (58, bX2_says_58 X), (69, bX2_says_69 X), (74, bX2_says_74 X), (83, bX2_says_83 X), (90, bX2_says_90 X), (97, bX2_says_97 X), (104, bX2_says_104 X), (117, bX2_says_117 X), (123, bX2_says_123 X), (156, bX2_says_156 X), (162, bX2_says_162 X)]
def mX2_says : jMt := (yX2_says, cX2_says, 7, (some .int), pX2_says)
def bX2_turnTop_0 (X : jX) : jK := i_mask [true, true, true, false] <| i_iload 2 <| i_if_lt X 37 4
def bX2_turnTop_4 (X : jX) : jK := i_mask [true, true, true, false] <| i_aload 0 <| i_getf 2 5 <| i_iload 2 <| i_iald <| i_istore 3 <| i_aload 0 <| i_getf 2 5 <| i_iload 2 <| i_iload 1 <| i_push (.int (-19)) <| i_cmp_ne X 27 22
def bX2_turnTop_22 (X : jX) : jK := i_mask [false, false, false, true] <| i_iload 3 <| i_ineg <| i_mask [false, false, false, false] <| i_goto X 36
def bX2_turnTop_27 (X : jX) : jK := i_mask [false, false, false, true] <| i_iload 3 <| i_if_ne X 35 31
def bX2_turnTop_31 (X : jX) : jK := i_mask [false, false, false, false] <| i_push (.int 1) <| i_mask [false, false, false, false] <| i_goto X 36
def bX2_turnTop_35 (X : jX) : jK := i_mask [false, false, false, false] <| i_push (.int 0) <| i_mask [false, false, false, false] <| i_goto X 36
def bX2_turnTop_36 (X : jX) : jK := i_mask [false, false, false, false] <| i_iast <| i_mask [false, false, false, false] <| i_goto X 37
def bX2_turnTop_37 (X : jX) : jK := i_mask [false, false, false, false] <| i_return X
def pX2_turnTop : jX → Nat → jK := fun X => jpick [(0, bX2_turnTop_0 X), (4, bX2_turnTop_4 X), (22, bX2_turnTop_22 X), (27, bX2_turnTop_27 X), (31, bX2_turnTop_31 X), (35, bX2_turnTop_35 X), (36, bX2_turnTop_36 X), (37, bX2_turnTop_37 X)]
def mX2_turnTop : jMt := (yX2_turnTop, cX2_turnTop, 4, none, pX2_turnTop)
def bX2_ofTwo_0 (X : jX) : jK := i_mask [true, true, true] <| i_iload 0 <| i_sw X [((-17), 98), ((-16), 94), ((-15), 83), ((-14), 72), ((-13), 102), ((-12), 58), ((-11), 44)] 102
def bX2_ofTwo_44 (X : jX) : jK := i_mask [false, true, true] <| i_iload 1 <| i_if_ne X 52 48
def bX2_ofTwo_48 (X : jX) : jK := i_mask [false, false, true] <| i_iload 2 <| i_if_eq X 56 52
def bX2_ofTwo_52 (X : jX) : jK := i_mask [false, false, false] <| i_push (.int 1) <| i_mask [false, false, false] <| i_goto X 57
def bX2_ofTwo_56 (X : jX) : jK := i_mask [false, false, false] <| i_push (.int 0) <| i_mask [false, false, false] <| i_goto X 57
def bX2_ofTwo_57 (X : jX) : jK := i_mask [false, false, false] <| i_ireturn X
def bX2_ofTwo_58 (X : jX) : jK := i_mask [false, true, true] <| i_iload 1 <| i_if_eq X 70 62
def bX2_ofTwo_62 (X : jX) : jK := i_mask [false, false, true] <| i_iload 2 <| i_if_eq X 70 66
def bX2_ofTwo_66 (X : jX) : jK := i_mask [false, false, false] <| i_push (.int 1) <| i_mask [false, false, false] <| i_goto X 71
def bX2_ofTwo_70 (X : jX) : jK := i_mask [false, false, false] <| i_push (.int 0) <| i_mask [false, false, false] <| i_goto X 71
def bX2_ofTwo_71 (X : jX) : jK := i_mask [false, false, false] <| i_ireturn X
def bX2_ofTwo_72 (X : jX) : jK := i_mask [false, true, true] <| i_iload 1 <| i_iload 2 <| i_cmp_ge X 81 77
def bX2_ofTwo_77 (X : jX) : jK := i_mask [false, false, false] <| i_push (.int 1) <| i_mask [false, false, false] <| i_goto X 82
def bX2_ofTwo_81 (X : jX) : jK := i_mask [false, false, false] <| i_push (.int 0) <| i_mask [false, false, false] <| i_goto X 82
def bX2_ofTwo_82 (X : jX) : jK := i_mask [false, false, false] <| i_ireturn X
def bX2_ofTwo_83 (X : jX) : jK := i_mask [false, true, true] <| i_iload 1 <| i_iload 2 <| i_cmp_ne X 92 88
def bX2_ofTwo_88 (X : jX) : jK := i_mask [false, false, false] <| i_push (.int 1) <| i_mask [false, false, false] <| i_goto X 93
def bX2_ofTwo_92 (X : jX) : jK := i_mask [false, false, false] <| i_push (.int 0) <| i_mask [false, false, false] <| i_goto X 93
def bX2_ofTwo_93 (X : jX) : jK := i_mask [false, false, false] <| i_ireturn X
def bX2_ofTwo_94 (X : jX) : jK := i_mask [false, true, true] <| i_iload 1 <| i_iload 2 <| i_iadd <| i_ireturn X
def bX2_ofTwo_98 (X : jX) : jK := i_mask [false, true, true] <| i_iload 1 <| i_iload 2 <| i_isub <| i_ireturn X
def bX2_ofTwo_102 (X : jX) : jK := i_mask [false, true, true] <| i_iload 1 <| i_iload 2 <| i_imul <| i_ireturn X
def pX2_ofTwo : jX → Nat → jK := fun X => jpick [(0, bX2_ofTwo_0 X), (44, bX2_ofTwo_44 X), (48, bX2_ofTwo_48 X), (52, bX2_ofTwo_52 X), (56, bX2_ofTwo_56 X), (57, bX2_ofTwo_57 X), (58, bX2_ofTwo_58 X), (62, bX2_ofTwo_62 X), (66, bX2_ofTwo_66 X), (70, bX2_ofTwo_70 X), (71, bX2_ofTwo_71 X), (72, bX2_ofTwo_72 X), (77, bX2_ofTwo_77 X), (81, bX2_ofTwo_81 X), (82, bX2_ofTwo_82 X), (83, bX2_ofTwo_83 X), (88, bX2_ofTwo_88 X), (92, bX2_ofTwo_92 X), (93, bX2_ofTwo_93 X), (94, bX2_ofTwo_94 X), (98, bX2_ofTwo_98 X), (102, bX2_ofTwo_102 X)]
def mX2_ofTwo : jMt := (yX2_ofTwo, cX2_ofTwo, 3, (some .int), pX2_ofTwo)
def bX3_init_0 (X : jX) : jK := i_mask [true] <| i_aload 0 <| i_objInit <| i_aload 0 <| i_push (.int 24) <| i_newI X <| i_putR 3 0 <| i_aload 0 <| i_push (.int 24) <| i_newI X <| i_putR 3 1 <| i_aload 0 <| i_push (.int 24) <| i_newI X <| i_putR 3 2 <| i_aload 0 <| i_push (.int 4) <| i_newI X <| i_putR 3 4 <| i_return X
def pX3_init : jX → Nat → jK := fun X => jpick [(0, bX3_init_0 X)]
def mX3_init : jMt := (yX3_init, cX3_init, 1, none, pX3_init)
def bX3_add_0 (X : jX) : jK := i_mask [true, true, true, true] <| i_aload 0 <| i_getf 3 0 <| i_aload 0 <| i_getf 3 3 <| i_iload 1 <| i_iast <| i_aload 0 <| i_getf 3 1 <| i_aload 0 <| i_getf 3 3 <| i_iload 2 <| i_iast <| i_aload 0 <| i_getf 3 2 <| i_aload 0 <| i_getf 3 3 <| i_iload 3 <| i_iast <| i_aload 0 <| i_dup <| i_getf 3 3 <| i_push (.int 1) <| i_iadd <| i_putI 3 3 <| i_aload 0 <| i_getf 3 3 <| i_push (.int 1) <| i_isub <| i_ireturn X
def pX3_add : jX → Nat → jK := fun X => jpick [(0, bX3_add_0 X)]
def mX3_add : jMt := (yX3_add, cX3_add, 4, (some .int), pX3_add)
def bX3_lastDay_0 (X : jX) : jK := i_mask [true] <| i_aload 0 <| i_getf 3 3 <| i_if_le X 21 7
def bX3_lastDay_7 (X : jX) : jK := i_mask [true] <| i_aload 0 <| i_getf 3 0 <| i_aload 0 <| i_getf 3 3 <| i_push (.int 1) <| i_isub <| i_iald <| i_mask [false] <| i_goto X 22
def bX3_lastDay_21 (X : jX) : jK := i_mask [false] <| i_push (.int 0) <| i_mask [false] <| i_goto X 22
def bX3_lastDay_22 (X : jX) : jK := i_mask [false] <| i_ireturn X
def pX3_lastDay : jX → Nat → jK := fun X => jpick [(0, bX3_lastDay_0 X), (7, bX3_lastDay_7 X), (21, bX3_lastDay_21 X), (22, bX3_lastDay_22 X)]
def mX3_lastDay : jMt := (yX3_lastDay, cX3_lastDay, 1, (some .int), pX3_lastDay)
def bX3_spread_0 (X : jX) : jK := i_mask [true, true, true, true, false, false, false] <| i_aload 0 <| i_getf 3 4 <| i_push (.int (-1)) <| i_invS X 275 2 <| i_aload 0 <| i_getf 3 4 <| i_iload 1 <| i_iload 2 <| i_iast <| i_push (.int 0) <| i_istore 4 <| i_mask [true, false, true, true, true, false, false] <| i_goto X 18
def bX3_spread_18 (X : jX) : jK := i_mask [true, false, true, true, true, false, false] <| i_iload 4 <| i_aload 0 <| i_getf 3 3 <| i_cmp_ge X 143 27
def bX3_spread_27 (X : jX) : jK := i_mask [true, false, true, true, true, false, false] <| i_iload 4 <| i_iload 3 <| i_cmp_eq X 137 33
def bX3_spread_33 (X : jX) : jK := i_mask [true, false, true, true, true, false, false] <| i_aload 0 <| i_getf 3 0 <| i_iload 4 <| i_iald <| i_iload 2 <| i_cmp_lt X 137 44
def bX3_spread_44 (X : jX) : jK := i_mask [true, false, true, true, true, false, false] <| i_aload 0 <| i_getf 3 1 <| i_iload 4 <| i_iald <| i_istore 5 <| i_aload 0 <| i_getf 3 2 <| i_iload 4 <| i_iald <| i_istore 6 <| i_aload 0 <| i_getf 3 4 <| i_iload 5 <| i_iald <| i_push (.int (-1)) <| i_cmp_ne X 101 73
def bX3_spread_73 (X : jX) : jK := i_mask [true, false, true, true, true, true, true] <| i_aload 0 <| i_getf 3 4 <| i_iload 6 <| i_iald <| i_push (.int (-1)) <| i_cmp_eq X 101 84
def bX3_spread_84 (X : jX) : jK := i_mask [true, false, true, true, true, true, false] <| i_aload 0 <| i_getf 3 4 <| i_iload 5 <| i_aload 0 <| i_getf 3 0 <| i_iload 4 <| i_iald <| i_iast <| i_mask [true, false, true, true, true, false, false] <| i_goto X 137
def bX3_spread_101 (X : jX) : jK := i_mask [true, false, true, true, true, true, true] <| i_aload 0 <| i_getf 3 4 <| i_iload 6 <| i_iald <| i_push (.int (-1)) <| i_cmp_ne X 137 112
def bX3_spread_112 (X : jX) : jK := i_mask [true, false, true, true, true, true, true] <| i_aload 0 <| i_getf 3 4 <| i_iload 5 <| i_iald <| i_push (.int (-1)) <| i_cmp_eq X 137 123
def bX3_spread_123 (X : jX) : jK := i_mask [true, false, true, true, true, false, true] <| i_aload 0 <| i_getf 3 4 <| i_iload 6 <| i_aload 0 <| i_getf 3 0 <| i_iload 4 <| i_iald <| i_iast <| i_mask [true, false, true, true, true, false, false] <| i_goto X 137
def bX3_spread_137 (X : jX) : jK := i_mask [true, false, true, true, true, false, false] <| i_iinc 4 1 <| i_mask [true, false, true, true, true, false, false] <| i_goto X 18
def bX3_spread_143 (X : jX) : jK := i_mask [false, false, false, false, false, false, false] <| i_return X
def pX3_spread : jX → Nat → jK := fun X => jpick [(0, bX3_spread_0 X), (18, bX3_spread_18 X), (27, bX3_spread_27 X), (33, bX3_spread_33 X), (44, bX3_spread_44 X), (73, bX3_spread_73 X), (84, bX3_spread_84 X), (101, bX3_spread_101 X), (112, bX3_spread_112 X), (123, bX3_spread_123 X), (137, bX3_spread_137 X), (143, bX3_spread_143 X)]
def mX3_spread : jMt := (yX3_spread, cX3_spread, 7, none, pX3_spread)
def bX3_knowsFrom_0 (X : jX) : jK := i_mask [true, true, true, true, true] <| i_aload 0 <| i_iload 1 <| i_iload 2 <| i_iload 4 <| i_invV X 27 3 3 <| i_aload 0 <| i_getf 3 4 <| i_iload 3 <| i_iald <| i_ireturn X
def pX3_knowsFrom : jX → Nat → jK := fun X => jpick [(0, bX3_knowsFrom_0 X)]
def mX3_knowsFrom : jMt := (yX3_knowsFrom, cX3_knowsFrom, 5, (some .int), pX3_knowsFrom)
def bX3_howManyKnow_0 (X : jX) : jK := i_mask [true, true, true, true, false, false] <| i_aload 0 <| i_iload 1 <| i_iload 2 <| i_push (.int (-1)) <| i_invV X 27 3 3 <| i_push (.int 0) <| i_istore 4 <| i_push (.int 0) <| i_istore 5 <| i_mask [true, false, false, true, true, true] <| i_goto X 13
def bX3_howManyKnow_13 (X : jX) : jK := i_mask [true, false, false, true, true, true] <| i_iload 5 <| i_push (.int 4) <| i_cmp_ge X 50 19
def bX3_howManyKnow_19 (X : jX) : jK := i_mask [true, false, false, true, true, true] <| i_aload 0 <| i_getf 3 4 <| i_iload 5 <| i_iald <| i_push (.int (-1)) <| i_cmp_eq X 44 30
def bX3_howManyKnow_30 (X : jX) : jK := i_mask [true, false, false, true, true, true] <| i_aload 0 <| i_getf 3 4 <| i_iload 5 <| i_iald <| i_iload 3 <| i_cmp_gt X 44 41
def bX3_howManyKnow_41 (X : jX) : jK := i_mask [true, false, false, true, true, true] <| i_iinc 4 1 <| i_mask [true, false, false, true, true, true] <| i_goto X 44
def bX3_howManyKnow_44 (X : jX) : jK := i_mask [true, false, false, true, true, true] <| i_iinc 5 1 <| i_mask [true, false, false, true, true, true] <| i_goto X 13
def bX3_howManyKnow_50 (X : jX) : jK := i_mask [false, false, false, false, true, false] <| i_iload 4 <| i_ireturn X
def pX3_howManyKnow : jX → Nat → jK := fun X => jpick [(0, bX3_howManyKnow_0 X), (13, bX3_howManyKnow_13 X), (19, bX3_howManyKnow_19 X), (30, bX3_howManyKnow_30 X), (41, bX3_howManyKnow_41 X), (44, bX3_howManyKnow_44 X), (50, bX3_howManyKnow_50 X)]
def mX3_howManyKnow : jMt := (yX3_howManyKnow, cX3_howManyKnow, 6, (some .int), pX3_howManyKnow)
def bX3_firstNeeded_0 (X : jX) : jK := i_mask [true, true, true, true, false, false, false] <| i_aload 0 <| i_iload 1 <| i_iload 2 <| i_iload 3 <| i_push (.int (-1)) <| i_invV X 28 4 3 <| i_istore 4 <| i_iload 4 <| i_push (.int (-1)) <| i_cmp_ne X 18 16
def bX3_firstNeeded_16 (X : jX) : jK := i_mask [false, false, false, false, false, false, false] <| i_push (.int (-1)) <| i_ireturn X
def bX3_firstNeeded_18 (X : jX) : jK := i_mask [true, true, true, true, true, false, false] <| i_push (.int 0) <| i_istore 5 <| i_mask [true, true, true, true, true, true, false] <| i_goto X 21
def bX3_firstNeeded_21 (X : jX) : jK := i_mask [true, true, true, true, true, true, false] <| i_iload 5 <| i_aload 0 <| i_getf 3 3 <| i_cmp_ge X 63 30
def bX3_firstNeeded_30 (X : jX) : jK := i_mask [true, true, true, true, true, true, false] <| i_aload 0 <| i_iload 1 <| i_iload 2 <| i_iload 3 <| i_iload 5 <| i_invV X 28 4 3 <| i_istore 6 <| i_iload 6 <| i_push (.int (-1)) <| i_cmp_eq X 54 47
def bX3_firstNeeded_47 (X : jX) : jK := i_mask [true, true, true, true, true, true, true] <| i_iload 6 <| i_iload 4 <| i_cmp_le X 57 54
def bX3_firstNeeded_54 (X : jX) : jK := i_mask [false, false, false, false, false, true, false] <| i_iload 5 <| i_ireturn X
def bX3_firstNeeded_57 (X : jX) : jK := i_mask [true, true, true, true, true, true, false] <| i_iinc 5 1 <| i_mask [true, true, true, true, true, true, false] <| i_goto X 21
def bX3_firstNeeded_63 (X : jX) : jK := i_mask [false, false, false, false, false, false, false] <| i_push (.int (-1)) <| i_ireturn X
def pX3_firstNeeded : jX → Nat → jK := fun X => jpick [(0, bX3_firstNeeded_0 X), (16, bX3_firstNeeded_16 X), (18, bX3_firstNeeded_18 X), (21, bX3_firstNeeded_21 X), (30, bX3_firstNeeded_30 X), (47, bX3_firstNeeded_47 X), (54, bX3_firstNeeded_54 X), (57, bX3_firstNeeded_57 X), (63, bX3_firstNeeded_63 X)]
def mX3_firstNeeded : jMt := (yX3_firstNeeded, cX3_firstNeeded, 7, (some .int), pX3_firstNeeded)
def bX4_init_0 (X : jX) : jK := i_mask [true] <| i_aload 0 <| i_objInit <| i_aload 0 <| i_push (.int 6) <| i_newI X <| i_dup <| i_push (.int 0) <| i_push (.int 4) <| i_iast <| i_dup <| i_push (.int 1) <| i_push (.int 2) <| i_iast <| i_dup <| i_push (.int 2) <| i_push (.int 0) <| i_iast <| i_dup <| i_push (.int 3) <| i_push (.int 3) <| i_iast <| i_dup <| i_push (.int 4) <| i_push (.int 0) <| i_iast <| i_dup <| i_push (.int 5) <| i_push (.int 11) <| i_iast <| i_putR 4 0 <| i_aload 0 <| i_push (.int 6) <| i_newI X <| i_dup <| i_push (.int 0) <| i_push (.int 9) <| i_iast <| i_dup <| i_push (.int 1) <| i_push (.int 7) <| i_mask [false] <| i_goto X 51
def bX4_init_51 (X : jX) : jK := i_mask [false] <| i_iast <| i_dup <| i_push (.int 2) <| i_push (.int 5) <| i_iast <| i_dup <| i_push (.int 3) <| i_push (.int 3) <| i_iast <| i_dup <| i_push (.int 4) <| i_push (.int 2) <| i_iast <| i_dup <| i_push (.int 5) <| i_push (.int 1) <| i_iast <| i_putR 4 1 <| i_return X
def pX4_init : jX → Nat → jK := fun X => jpick [(0, bX4_init_0 X), (51, bX4_init_51 X)]
def mX4_init : jMt := (yX4_init, cX4_init, 1, none, pX4_init)
def bX4_becomeLike_0 (X : jX) : jK := i_mask [true, true] <| i_aload 1 <| i_getf 4 0 <| i_push (.int 0) <| i_aload 0 <| i_getf 4 0 <| i_push (.int 0) <| i_push (.int 6) <| i_copy <| i_aload 1 <| i_getf 4 1 <| i_push (.int 0) <| i_aload 0 <| i_getf 4 1 <| i_push (.int 0) <| i_push (.int 6) <| i_copy <| i_aload 0 <| i_aload 1 <| i_getf 4 2 <| i_putI 4 2 <| i_return X
def pX4_becomeLike : jX → Nat → jK := fun X => jpick [(0, bX4_becomeLike_0 X)]
def mX4_becomeLike : jMt := (yX4_becomeLike, cX4_becomeLike, 2, none, pX4_becomeLike)
def bX4_near_0 (X : jX) : jK := i_mask [true] <| i_aload 0 <| i_getf 4 0 <| i_push (.int 0) <| i_iald <| i_ireturn X
def pX4_near : jX → Nat → jK := fun X => jpick [(0, bX4_near_0 X)]
def mX4_near : jMt := (yX4_near, cX4_near, 1, (some .int), pX4_near)
def bX4_wind_0 (X : jX) : jK := i_mask [true] <| i_aload 0 <| i_getf 4 0 <| i_push (.int 2) <| i_iald <| i_ireturn X
def pX4_wind : jX → Nat → jK := fun X => jpick [(0, bX4_wind_0 X)]
def mX4_wind : jMt := (yX4_wind, cX4_wind, 1, (some .int), pX4_wind)
def bX4_noise_0 (X : jX) : jK := i_mask [true] <| i_aload 0 <| i_getf 4 0 <| i_push (.int 3) <| i_iald <| i_ireturn X
def pX4_noise : jX → Nat → jK := fun X => jpick [(0, bX4_noise_0 X)]
def mX4_noise : jMt := (yX4_noise, cX4_noise, 1, (some .int), pX4_noise)
def bX4_minutes_0 (X : jX) : jK := i_mask [true] <| i_aload 0 <| i_getf 4 0 <| i_push (.int 5) <| i_iald <| i_ireturn X
def pX4_minutes : jX → Nat → jK := fun X => jpick [(0, bX4_minutes_0 X)]
def mX4_minutes : jMt := (yX4_minutes, cX4_minutes, 1, (some .int), pX4_minutes)
def bX4_hasMinute_0 (X : jX) : jK := i_mask [true, true] <| i_iload 1 <| i_push (.int 0) <| i_aload 0 <| i_invV X 36 0 4 <| i_push (.int 1) <| i_isub <| i_invS X 152 3 <| i_ireturn X
def pX4_hasMinute : jX → Nat → jK := fun X => jpick [(0, bX4_hasMinute_0 X)]
def mX4_hasMinute : jMt := (yX4_hasMinute, cX4_hasMinute, 2, (some .boolean), pX4_hasMinute)
def bX4_sailIn_0 (X : jX) : jK := i_mask [true, true] <| i_aload 0 <| i_getf 4 0 <| i_push (.int 4) <| i_iald <| i_iload 1 <| i_ishr <| i_push (.int 1) <| i_iand <| i_ireturn X
def pX4_sailIn : jX → Nat → jK := fun X => jpick [(0, bX4_sailIn_0 X)]
def mX4_sailIn : jMt := (yX4_sailIn, cX4_sailIn, 2, (some .int), pX4_sailIn)
def bX4_far_0 (X : jX) : jK := i_mask [true, true, true] <| i_iload 1 <| i_aload 0 <| i_getf 4 0 <| i_push (.int 1) <| i_iald <| i_push (.int 2) <| i_iload 2 <| i_imul <| i_aload 0 <| i_invV X 36 0 4 <| i_push (.int 1) <| i_isub <| i_isub <| i_mabs X <| i_imul <| i_push (.int 2) <| i_idiv <| i_iadd <| i_ireturn X
def pX4_far : jX → Nat → jK := fun X => jpick [(0, bX4_far_0 X)]
def mX4_far : jMt := (yX4_far, cX4_far, 3, (some .int), pX4_far)
def bX4_worthOf_0 (X : jX) : jK := i_mask [true, true, false, false] <| i_push (.int 0) <| i_istore 2 <| i_push (.int 0) <| i_istore 3 <| i_mask [true, true, true, true] <| i_goto X 4
def bX4_worthOf_4 (X : jX) : jK := i_mask [true, true, true, true] <| i_iload 3 <| i_push (.int 6) <| i_cmp_ge X 33 10
def bX4_worthOf_10 (X : jX) : jK := i_mask [true, true, true, true] <| i_iload 1 <| i_iload 3 <| i_ishr <| i_push (.int 1) <| i_iand <| i_if_eq X 27 18
def bX4_worthOf_18 (X : jX) : jK := i_mask [true, true, true, true] <| i_iload 2 <| i_aload 0 <| i_getf 4 1 <| i_iload 3 <| i_iald <| i_iadd <| i_istore 2 <| i_mask [true, true, true, true] <| i_goto X 27
def bX4_worthOf_27 (X : jX) : jK := i_mask [true, true, true, true] <| i_iinc 3 1 <| i_mask [true, true, true, true] <| i_goto X 4
def bX4_worthOf_33 (X : jX) : jK := i_mask [false, false, true, false] <| i_iload 2 <| i_ireturn X
def pX4_worthOf : jX → Nat → jK := fun X => jpick [(0, bX4_worthOf_0 X), (4, bX4_worthOf_4 X), (10, bX4_worthOf_10 X), (18, bX4_worthOf_18 X), (27, bX4_worthOf_27 X), (33, bX4_worthOf_33 X)]
def mX4_worthOf : jMt := (yX4_worthOf, cX4_worthOf, 4, (some .int), pX4_worthOf)
def bX5_init_0 (X : jX) : jK := i_mask [true] <| i_aload 0 <| i_objInit <| i_aload 0 <| i_new X 8 dsX8 <| i_dup <| i_invI X 84 0 <| i_putR 5 0 <| i_aload 0 <| i_push (.int 160) <| i_newI X <| i_putR 5 1 <| i_aload 0 <| i_push (.int 4) <| i_newI X <| i_putR 5 2 <| i_return X
def pX5_init : jX → Nat → jK := fun X => jpick [(0, bX5_init_0 X)]
def mX5_init : jMt := (yX5_init, cX5_init, 1, none, pX5_init)
def bX5_readTape_0 (X : jX) : jK := i_mask [true, false] <| i_aload 0 <| i_getf 5 0 <| i_invV X 86 0 8 <| i_aload 0 <| i_push (.int 0) <| i_putI 5 3 <| i_aload 0 <| i_push (.int 0) <| i_putI 5 4 <| i_aload 0 <| i_push (.int (-1)) <| i_putI 5 5 <| i_push (.int 0) <| i_istore 1 <| i_mask [true, true] <| i_goto X 24
def bX5_readTape_24 (X : jX) : jK := i_mask [true, true] <| i_iload 1 <| i_push (.int 3) <| i_cmp_ge X 66 29
def bX5_readTape_29 (X : jX) : jK := i_mask [true, true] <| i_aload 0 <| i_getf 5 2 <| i_iload 1 <| i_aload 0 <| i_getf 5 3 <| i_iast <| i_aload 0 <| i_push (.int 300) <| i_iload 1 <| i_iadd <| i_invV X 46 1 5 <| i_aload 0 <| i_push (.int 0) <| i_push (.int 0) <| i_invV X 48 2 5 <| i_aload 0 <| i_push (.int 59) <| i_invV X 46 1 5 <| i_iinc 1 1 <| i_mask [true, true] <| i_goto X 24
def bX5_readTape_66 (X : jX) : jK := i_mask [true, false] <| i_aload 0 <| i_getf 5 2 <| i_push (.int 3) <| i_aload 0 <| i_getf 5 3 <| i_iast <| i_aload 0 <| i_push (.int 0) <| i_invV X 46 1 5 <| i_aload 0 <| i_getf 5 0 <| i_push (.int 0) <| i_putI 8 1 <| i_aload 0 <| i_getf 5 5 <| i_ireturn X
def pX5_readTape : jX → Nat → jK := fun X => jpick [(0, bX5_readTape_0 X), (24, bX5_readTape_24 X), (29, bX5_readTape_29 X), (66, bX5_readTape_66 X)]
def mX5_readTape : jMt := (yX5_readTape, cX5_readTape, 2, (some .int), pX5_readTape)
def bX5_token_0 (X : jX) : jK := i_mask [true] <| i_aload 0 <| i_getf 5 0 <| i_getf 8 2 <| i_aload 0 <| i_getf 5 4 <| i_iald <| i_ireturn X
def pX5_token : jX → Nat → jK := fun X => jpick [(0, bX5_token_0 X)]
def mX5_token : jMt := (yX5_token, cX5_token, 1, (some .int), pX5_token)
def bX5_next_0 (X : jX) : jK := i_mask [true] <| i_aload 0 <| i_getf 5 4 <| i_aload 0 <| i_getf 5 0 <| i_getf 8 4 <| i_push (.int 1) <| i_isub <| i_cmp_ge X 26 16
def bX5_next_16 (X : jX) : jK := i_mask [true] <| i_aload 0 <| i_dup <| i_getf 5 4 <| i_push (.int 1) <| i_iadd <| i_putI 5 4 <| i_mask [false] <| i_goto X 26
def bX5_next_26 (X : jX) : jK := i_mask [false] <| i_return X
def pX5_next : jX → Nat → jK := fun X => jpick [(0, bX5_next_0 X), (16, bX5_next_16 X), (26, bX5_next_26 X)]
def mX5_next : jMt := (yX5_next, cX5_next, 1, none, pX5_next)
def bX5_fail_0 (X : jX) : jK := i_mask [true] <| i_aload 0 <| i_getf 5 5 <| i_if_ge X 23 7
def bX5_fail_7 (X : jX) : jK := i_mask [true] <| i_aload 0 <| i_aload 0 <| i_getf 5 0 <| i_getf 8 3 <| i_aload 0 <| i_getf 5 4 <| i_iald <| i_putI 5 5 <| i_mask [false] <| i_goto X 23
def bX5_fail_23 (X : jX) : jK := i_mask [false] <| i_return X
def pX5_fail : jX → Nat → jK := fun X => jpick [(0, bX5_fail_0 X), (7, bX5_fail_7 X), (23, bX5_fail_23 X)]
def mX5_fail : jMt := (yX5_fail, cX5_fail, 1, none, pX5_fail)
def bX5_expect_0 (X : jX) : jK := i_mask [true, true] <| i_aload 0 <| i_getf 5 5 <| i_if_ge X 22 7
def bX5_expect_7 (X : jX) : jK := i_mask [true, true] <| i_aload 0 <| i_invV X 43 0 5 <| i_iload 1 <| i_cmp_ne X 22 15
def bX5_expect_15 (X : jX) : jK := i_mask [true, false] <| i_aload 0 <| i_invV X 44 0 5 <| i_mask [false, false] <| i_goto X 26
def bX5_expect_22 (X : jX) : jK := i_mask [true, false] <| i_aload 0 <| i_invV X 45 0 5 <| i_mask [false, false] <| i_goto X 26
def bX5_expect_26 (X : jX) : jK := i_mask [false, false] <| i_return X
def pX5_expect : jX → Nat → jK := fun X => jpick [(0, bX5_expect_0 X), (7, bX5_expect_7 X), (15, bX5_expect_15 X), (22, bX5_expect_22 X), (26, bX5_expect_26 X)]
def mX5_expect : jMt := (yX5_expect, cX5_expect, 2, none, pX5_expect)
def bX5_write_0 (X : jX) : jK := i_mask [true, true] <| i_aload 0 <| i_getf 5 5 <| i_if_ge X 39 7
def bX5_write_7 (X : jX) : jK := i_mask [true, true] <| i_aload 0 <| i_getf 5 3 <| i_aload 0 <| i_getf 5 1 <| i_alen <| i_cmp_ge X 39 19
def bX5_write_19 (X : jX) : jK := i_mask [true, true] <| i_aload 0 <| i_getf 5 1 <| i_aload 0 <| i_getf 5 3 <| i_iload 1 <| i_iast <| i_aload 0 <| i_dup <| i_getf 5 3 <| i_push (.int 1) <| i_iadd <| i_putI 5 3 <| i_mask [false, false] <| i_goto X 39
def bX5_write_39 (X : jX) : jK := i_mask [false, false] <| i_return X
def pX5_write : jX → Nat → jK := fun X => jpick [(0, bX5_write_0 X), (7, bX5_write_7 X), (19, bX5_write_19 X), (39, bX5_write_39 X)]
def mX5_write : jMt := (yX5_write, cX5_write, 2, none, pX5_write)
def bX5_readLevel_0 (X : jX) : jK := i_mask [true, true, true] <| i_aload 0 <| i_getf 5 5 <| i_if_lt X 8 7
def bX5_readLevel_7 (X : jX) : jK := i_mask [false, false, false] <| i_return X
def bX5_readLevel_8 (X : jX) : jK := i_mask [true, true, true] <| i_iload 1 <| i_push (.int 2) <| i_cmp_ne X 21 13
def bX5_readLevel_13 (X : jX) : jK := i_mask [true, false, true] <| i_aload 0 <| i_iload 2 <| i_invV X 51 1 5 <| i_mask [false, false, false] <| i_goto X 40
def bX5_readLevel_21 (X : jX) : jK := i_mask [true, true, true] <| i_iload 1 <| i_push (.int 5) <| i_cmp_ne X 34 26
def bX5_readLevel_26 (X : jX) : jK := i_mask [true, false, true] <| i_aload 0 <| i_iload 2 <| i_invV X 52 1 5 <| i_mask [false, false, false] <| i_goto X 40
def bX5_readLevel_34 (X : jX) : jK := i_mask [true, true, true] <| i_aload 0 <| i_iload 1 <| i_iload 2 <| i_invV X 49 2 5 <| i_mask [false, false, false] <| i_goto X 40
def bX5_readLevel_40 (X : jX) : jK := i_mask [false, false, false] <| i_return X
def pX5_readLevel : jX → Nat → jK := fun X => jpick [(0, bX5_readLevel_0 X), (7, bX5_readLevel_7 X), (8, bX5_readLevel_8 X), (13, bX5_readLevel_13 X), (21, bX5_readLevel_21 X), (26, bX5_readLevel_26 X), (34, bX5_readLevel_34 X), (40, bX5_readLevel_40 X)]
def mX5_readLevel : jMt := (yX5_readLevel, cX5_readLevel, 3, none, pX5_readLevel)
def bX5_readChain_0 (X : jX) : jK := i_mask [true, true, true, false, false] <| i_aload 0 <| i_iload 1 <| i_push (.int 1) <| i_iadd <| i_iload 2 <| i_invV X 48 2 5 <| i_push (.int 0) <| i_istore 3 <| i_mask [true, true, true, true, false] <| i_goto X 10
def bX5_readChain_10 (X : jX) : jK := i_mask [true, true, true, true, false] <| i_iload 3 <| i_push (.int 160) <| i_cmp_ge X 63 17
def bX5_readChain_17 (X : jX) : jK := i_mask [true, true, true, true, false] <| i_aload 0 <| i_getf 5 5 <| i_if_ge X 63 24
def bX5_readChain_24 (X : jX) : jK := i_mask [true, true, true, true, false] <| i_aload 0 <| i_iload 1 <| i_invV X 50 1 5 <| i_if_eq X 63 32
def bX5_readChain_32 (X : jX) : jK := i_mask [true, true, true, true, false] <| i_aload 0 <| i_iload 1 <| i_invV X 50 1 5 <| i_istore 4 <| i_aload 0 <| i_invV X 44 0 5 <| i_aload 0 <| i_iload 1 <| i_push (.int 1) <| i_iadd <| i_iload 2 <| i_invV X 48 2 5 <| i_aload 0 <| i_iload 4 <| i_invV X 47 1 5 <| i_iinc 3 1 <| i_mask [true, true, true, true, false] <| i_goto X 10
def bX5_readChain_63 (X : jX) : jK := i_mask [false, false, false, false, false] <| i_return X
def pX5_readChain : jX → Nat → jK := fun X => jpick [(0, bX5_readChain_0 X), (10, bX5_readChain_10 X), (17, bX5_readChain_17 X), (24, bX5_readChain_24 X), (32, bX5_readChain_32 X), (63, bX5_readChain_63 X)]
def mX5_readChain : jMt := (yX5_readChain, cX5_readChain, 5, none, pX5_readChain)
def bX5_joining_0 (X : jX) : jK := i_mask [true, true, false] <| i_aload 0 <| i_invV X 43 0 5 <| i_istore 2 <| i_iload 1 <| i_if_ne X 23 9
def bX5_joining_9 (X : jX) : jK := i_mask [false, false, true] <| i_iload 2 <| i_push (.int 303) <| i_cmp_ne X 21 16
def bX5_joining_16 (X : jX) : jK := i_mask [false, false, false] <| i_push (.int (-11)) <| i_mask [false, false, false] <| i_goto X 22
def bX5_joining_21 (X : jX) : jK := i_mask [false, false, false] <| i_push (.int 0) <| i_mask [false, false, false] <| i_goto X 22
def bX5_joining_22 (X : jX) : jK := i_mask [false, false, false] <| i_ireturn X
def bX5_joining_23 (X : jX) : jK := i_mask [false, true, true] <| i_iload 1 <| i_push (.int 1) <| i_cmp_ne X 42 28
def bX5_joining_28 (X : jX) : jK := i_mask [false, false, true] <| i_iload 2 <| i_push (.int 304) <| i_cmp_ne X 40 35
def bX5_joining_35 (X : jX) : jK := i_mask [false, false, false] <| i_push (.int (-12)) <| i_mask [false, false, false] <| i_goto X 41
def bX5_joining_40 (X : jX) : jK := i_mask [false, false, false] <| i_push (.int 0) <| i_mask [false, false, false] <| i_goto X 41
def bX5_joining_41 (X : jX) : jK := i_mask [false, false, false] <| i_ireturn X
def bX5_joining_42 (X : jX) : jK := i_mask [false, true, true] <| i_iload 1 <| i_push (.int 3) <| i_cmp_ne X 71 47
def bX5_joining_47 (X : jX) : jK := i_mask [false, false, true] <| i_iload 2 <| i_push (.int 43) <| i_cmp_ne X 58 53
def bX5_joining_53 (X : jX) : jK := i_mask [false, false, false] <| i_push (.int (-16)) <| i_mask [false, false, false] <| i_goto X 70
def bX5_joining_58 (X : jX) : jK := i_mask [false, false, true] <| i_iload 2 <| i_push (.int 45) <| i_cmp_ne X 69 64
def bX5_joining_64 (X : jX) : jK := i_mask [false, false, false] <| i_push (.int (-17)) <| i_mask [false, false, false] <| i_goto X 70
def bX5_joining_69 (X : jX) : jK := i_mask [false, false, false] <| i_push (.int 0) <| i_mask [false, false, false] <| i_goto X 70
def bX5_joining_70 (X : jX) : jK := i_mask [false, false, false] <| i_ireturn X
def bX5_joining_71 (X : jX) : jK := i_mask [false, false, true] <| i_iload 2 <| i_push (.int 42) <| i_cmp_ne X 82 77
def bX5_joining_77 (X : jX) : jK := i_mask [false, false, false] <| i_push (.int (-18)) <| i_mask [false, false, false] <| i_goto X 83
def bX5_joining_82 (X : jX) : jK := i_mask [false, false, false] <| i_push (.int 0) <| i_mask [false, false, false] <| i_goto X 83
def bX5_joining_83 (X : jX) : jK := i_mask [false, false, false] <| i_ireturn X
def pX5_joining : jX → Nat → jK := fun X => jpick [(0, bX5_joining_0 X), (9, bX5_joining_9 X), (16, bX5_joining_16 X), (21, bX5_joining_21 X), (22, bX5_joining_22 X), (23, bX5_joining_23 X), (28, bX5_joining_28 X), (35, bX5_joining_35 X), (40, bX5_joining_40 X), (41, bX5_joining_41 X), (42, bX5_joining_42 X), (47, bX5_joining_47 X), (53, bX5_joining_53 X), (58, bX5_joining_58 X), (64, bX5_joining_64 X), (69, bX5_joining_69 X), (70, bX5_joining_70 X), (71, bX5_joining_71 X), (77, bX5_joining_77 X), (82, bX5_joining_82 X), (83, bX5_joining_83 X)]
def mX5_joining : jMt := (yX5_joining, cX5_joining, 3, (some .int), pX5_joining)
def bX5_readComparison_0 (X : jX) : jK := i_mask [true, true, false] <| i_aload 0 <| i_invV X 43 0 5 <| i_push (.int 305) <| i_cmp_ne X 23 10
def bX5_readComparison_10 (X : jX) : jK := i_mask [true, true, false] <| i_aload 0 <| i_push (.int 2) <| i_iload 1 <| i_invV X 53 2 5 <| i_aload 0 <| i_push (.int (-13)) <| i_invV X 47 1 5 <| i_return X
def bX5_readComparison_23 (X : jX) : jK := i_mask [true, true, false] <| i_aload 0 <| i_push (.int 3) <| i_iload 1 <| i_invV X 48 2 5 <| i_aload 0 <| i_invV X 43 0 5 <| i_push (.int 60) <| i_cmp_ne X 43 38
def bX5_readComparison_38 (X : jX) : jK := i_mask [true, true, false] <| i_push (.int (-14)) <| i_mask [true, true, false] <| i_goto X 58
def bX5_readComparison_43 (X : jX) : jK := i_mask [true, true, false] <| i_aload 0 <| i_invV X 43 0 5 <| i_push (.int 61) <| i_cmp_ne X 57 52
def bX5_readComparison_52 (X : jX) : jK := i_mask [true, true, false] <| i_push (.int (-15)) <| i_mask [true, true, false] <| i_goto X 58
def bX5_readComparison_57 (X : jX) : jK := i_mask [true, true, false] <| i_push (.int 0) <| i_mask [true, true, false] <| i_goto X 58
def bX5_readComparison_58 (X : jX) : jK := i_mask [true, true, false] <| i_istore 2 <| i_iload 2 <| i_if_eq X 78 63
def bX5_readComparison_63 (X : jX) : jK := i_mask [true, true, true] <| i_aload 0 <| i_invV X 44 0 5 <| i_aload 0 <| i_push (.int 3) <| i_iload 1 <| i_invV X 48 2 5 <| i_aload 0 <| i_iload 2 <| i_invV X 47 1 5 <| i_mask [false, false, false] <| i_goto X 78
def bX5_readComparison_78 (X : jX) : jK := i_mask [false, false, false] <| i_return X
def pX5_readComparison : jX → Nat → jK := fun X => jpick [(0, bX5_readComparison_0 X), (10, bX5_readComparison_10 X), (23, bX5_readComparison_23 X), (38, bX5_readComparison_38 X), (43, bX5_readComparison_43 X), (52, bX5_readComparison_52 X), (57, bX5_readComparison_57 X), (58, bX5_readComparison_58 X), (63, bX5_readComparison_63 X), (78, bX5_readComparison_78 X)]
def mX5_readComparison : jMt := (yX5_readComparison, cX5_readComparison, 3, none, pX5_readComparison)
def bX5_readOne_0 (X : jX) : jK := i_mask [true, true, false] <| i_aload 0 <| i_invV X 43 0 5 <| i_istore 2 <| i_iload 2 <| i_push (.int 1000) <| i_cmp_lt X 28 12
def bX5_readOne_12 (X : jX) : jK := i_mask [true, false, true] <| i_aload 0 <| i_iload 2 <| i_push (.int 1000) <| i_isub <| i_invV X 47 1 5 <| i_aload 0 <| i_invV X 44 0 5 <| i_mask [false, false, false] <| i_goto X 104
def bX5_readOne_28 (X : jX) : jK := i_mask [true, true, true] <| i_iload 2 <| i_push (.int 200) <| i_cmp_lt X 58 35
def bX5_readOne_35 (X : jX) : jK := i_mask [true, true, true] <| i_iload 2 <| i_push (.int 300) <| i_cmp_ge X 58 42
def bX5_readOne_42 (X : jX) : jK := i_mask [true, false, true] <| i_aload 0 <| i_push (.int 199) <| i_iload 2 <| i_isub <| i_invV X 47 1 5 <| i_aload 0 <| i_invV X 44 0 5 <| i_mask [false, false, false] <| i_goto X 104
def bX5_readOne_58 (X : jX) : jK := i_mask [true, true, true] <| i_iload 2 <| i_push (.int 45) <| i_cmp_ne X 79 64
def bX5_readOne_64 (X : jX) : jK := i_mask [true, true, false] <| i_aload 0 <| i_push (.int 5) <| i_iload 1 <| i_invV X 53 2 5 <| i_aload 0 <| i_push (.int (-19)) <| i_invV X 47 1 5 <| i_mask [false, false, false] <| i_goto X 104
def bX5_readOne_79 (X : jX) : jK := i_mask [true, true, true] <| i_iload 2 <| i_push (.int 40) <| i_cmp_ne X 100 85
def bX5_readOne_85 (X : jX) : jK := i_mask [true, true, false] <| i_aload 0 <| i_push (.int 0) <| i_iload 1 <| i_invV X 53 2 5 <| i_aload 0 <| i_push (.int 41) <| i_invV X 46 1 5 <| i_mask [false, false, false] <| i_goto X 104
def bX5_readOne_100 (X : jX) : jK := i_mask [true, false, false] <| i_aload 0 <| i_invV X 45 0 5 <| i_mask [false, false, false] <| i_goto X 104
def bX5_readOne_104 (X : jX) : jK := i_mask [false, false, false] <| i_return X
def pX5_readOne : jX → Nat → jK := fun X => jpick [(0, bX5_readOne_0 X), (12, bX5_readOne_12 X), (28, bX5_readOne_28 X), (35, bX5_readOne_35 X), (42, bX5_readOne_42 X), (58, bX5_readOne_58 X), (64, bX5_readOne_64 X), (79, bX5_readOne_79 X), (85, bX5_readOne_85 X), (100, bX5_readOne_100 X), (104, bX5_readOne_104 X)]
def mX5_readOne : jMt := (yX5_readOne, cX5_readOne, 3, none, pX5_readOne)
def bX5_readOpened_0 (X : jX) : jK := i_mask [true, true, true] <| i_iload 2 <| i_push (.int 5) <| i_cmp_lt X 12 5
def bX5_readOpened_5 (X : jX) : jK := i_mask [true, false, false] <| i_aload 0 <| i_invV X 45 0 5 <| i_mask [false, false, false] <| i_goto X 24
def bX5_readOpened_12 (X : jX) : jK := i_mask [true, true, true] <| i_aload 0 <| i_invV X 44 0 5 <| i_aload 0 <| i_iload 1 <| i_iload 2 <| i_push (.int 1) <| i_iadd <| i_invV X 48 2 5 <| i_mask [false, false, false] <| i_goto X 24
def bX5_readOpened_24 (X : jX) : jK := i_mask [false, false, false] <| i_return X
def pX5_readOpened : jX → Nat → jK := fun X => jpick [(0, bX5_readOpened_0 X), (5, bX5_readOpened_5 X), (12, bX5_readOpened_12 X), (24, bX5_readOpened_24 X)]
def mX5_readOpened : jMt := (yX5_readOpened, cX5_readOpened, 3, none, pX5_readOpened)
def bX6_init_0 (X : jX) : jK := i_mask [true] <| i_aload 0 <| i_objInit <| i_aload 0 <| i_new X 4 dsX4 <| i_dup <| i_invI X 31 0 <| i_putR 6 0 <| i_aload 0 <| i_new X 2 dsX2 <| i_dup <| i_invI X 19 0 <| i_putR 6 1 <| i_aload 0 <| i_push (.int 8) <| i_newI X <| i_putR 6 2 <| i_aload 0 <| i_push (.int 8) <| i_newI X <| i_putR 6 3 <| i_aload 0 <| i_push (.int 8) <| i_newI X <| i_putR 6 4 <| i_aload 0 <| i_push (.int 8) <| i_newI X <| i_putR 6 6 <| i_aload 0 <| i_push (.int 8) <| i_newI X <| i_putR 6 7 <| i_aload 0 <| i_push (.int 6) <| i_newI X <| i_putR 6 8 <| i_aload 0 <| i_push (.int 8) <| i_newI X <| i_putR 6 10 <| i_mask [true] <| i_goto X 82
def bX6_init_82 (X : jX) : jK := i_mask [true] <| i_aload 0 <| i_push (.int 8) <| i_newI X <| i_putR 6 11 <| i_aload 0 <| i_push (.int 96) <| i_newI X <| i_putR 6 12 <| i_aload 0 <| i_push (.int 96) <| i_newI X <| i_putR 6 13 <| i_return X
def pX6_init : jX → Nat → jK := fun X => jpick [(0, bX6_init_0 X), (82, bX6_init_82 X)]
def mX6_init : jMt := (yX6_init, cX6_init, 1, none, pX6_init)
def bX6_add_0 (X : jX) : jK := i_mask [true, true, true, true] <| i_aload 0 <| i_getf 6 2 <| i_aload 0 <| i_getf 6 5 <| i_iload 1 <| i_iast <| i_aload 0 <| i_getf 6 3 <| i_aload 0 <| i_getf 6 5 <| i_iload 2 <| i_iast <| i_aload 0 <| i_getf 6 4 <| i_aload 0 <| i_getf 6 5 <| i_iload 3 <| i_iast <| i_aload 0 <| i_dup <| i_getf 6 5 <| i_push (.int 1) <| i_iadd <| i_putI 6 5 <| i_aload 0 <| i_getf 6 5 <| i_push (.int 1) <| i_isub <| i_ireturn X
def pX6_add : jX → Nat → jK := fun X => jpick [(0, bX6_add_0 X)]
def mX6_add : jMt := (yX6_add, cX6_add, 4, (some .int), pX6_add)
def bX6_isOf_0 (X : jX) : jK := i_mask [true, true, true] <| i_iload 2 <| i_if_eq X 28 4
def bX6_isOf_4 (X : jX) : jK := i_mask [true, true, true] <| i_aload 0 <| i_getf 6 2 <| i_iload 1 <| i_iald <| i_iload 2 <| i_cmp_eq X 28 14
def bX6_isOf_14 (X : jX) : jK := i_mask [true, true, true] <| i_push (.ref 7) <| i_aload 0 <| i_getf 6 2 <| i_iload 1 <| i_iald <| i_iald <| i_iload 2 <| i_cmp_ne X 32 28
def bX6_isOf_28 (X : jX) : jK := i_mask [false, false, false] <| i_push (.int 1) <| i_mask [false, false, false] <| i_goto X 33
def bX6_isOf_32 (X : jX) : jK := i_mask [false, false, false] <| i_push (.int 0) <| i_mask [false, false, false] <| i_goto X 33
def bX6_isOf_33 (X : jX) : jK := i_mask [false, false, false] <| i_ireturn X
def pX6_isOf : jX → Nat → jK := fun X => jpick [(0, bX6_isOf_0 X), (4, bX6_isOf_4 X), (14, bX6_isOf_14 X), (28, bX6_isOf_28 X), (32, bX6_isOf_32 X), (33, bX6_isOf_33 X)]
def mX6_isOf : jMt := (yX6_isOf, cX6_isOf, 3, (some .boolean), pX6_isOf)
def bX6_byMouth_0 (X : jX) : jK := i_mask [true, true] <| i_aload 0 <| i_iload 1 <| i_push (.int 4) <| i_invV X 56 2 6 <| i_if_ne X 13 9
def bX6_byMouth_9 (X : jX) : jK := i_mask [false, false] <| i_push (.int 1) <| i_mask [false, false] <| i_goto X 14
def bX6_byMouth_13 (X : jX) : jK := i_mask [false, false] <| i_push (.int 0) <| i_mask [false, false] <| i_goto X 14
def bX6_byMouth_14 (X : jX) : jK := i_mask [false, false] <| i_ireturn X
def pX6_byMouth : jX → Nat → jK := fun X => jpick [(0, bX6_byMouth_0 X), (9, bX6_byMouth_9 X), (13, bX6_byMouth_13 X), (14, bX6_byMouth_14 X)]
def mX6_byMouth : jMt := (yX6_byMouth, cX6_byMouth, 2, (some .boolean), pX6_byMouth)
def bX6_sailBy_0 (X : jX) : jK := i_mask [true, true] <| i_aload 0 <| i_iload 1 <| i_putI 6 14 <| i_aload 0 <| i_getf 6 13 <| i_push (.int 0) <| i_invS X 275 2 <| i_return X
def pX6_sailBy : jX → Nat → jK := fun X => jpick [(0, bX6_sailBy_0 X)]
def mX6_sailBy : jMt := (yX6_sailBy, cX6_sailBy, 2, none, pX6_sailBy)
def bX6_lawSays_0 (X : jX) : jK := i_mask [true, true, true, true] <| i_aload 0 <| i_getf 6 1 <| i_getf 2 1 <| i_push (.int 0) <| i_aload 0 <| i_getf 6 0 <| i_aload 0 <| i_getf 6 14 <| i_iload 2 <| i_invV X 39 2 4 <| i_iast <| i_aload 0 <| i_getf 6 1 <| i_getf 2 1 <| i_push (.int 1) <| i_aload 0 <| i_getf 6 0 <| i_invV X 34 0 4 <| i_iast <| i_aload 0 <| i_getf 6 1 <| i_getf 2 1 <| i_push (.int 2) <| i_aload 0 <| i_getf 6 0 <| i_invV X 35 0 4 <| i_iast <| i_aload 0 <| i_getf 6 1 <| i_getf 2 1 <| i_push (.int 3) <| i_iload 3 <| i_iast <| i_aload 0 <| i_getf 6 1 <| i_getf 2 1 <| i_push (.int 4) <| i_aload 0 <| i_getf 6 0 <| i_iload 2 <| i_mask [true, true, true, false] <| i_goto X 76
def bX6_lawSays_76 (X : jX) : jK := i_mask [true, true, true, false] <| i_invV X 38 1 4 <| i_iast <| i_aload 0 <| i_getf 6 1 <| i_getf 2 1 <| i_push (.int 5) <| i_iload 2 <| i_iast <| i_aload 0 <| i_getf 6 1 <| i_aload 0 <| i_getf 6 0 <| i_getf 4 2 <| i_iload 1 <| i_invV X 21 2 2 <| i_ireturn X
def pX6_lawSays : jX → Nat → jK := fun X => jpick [(0, bX6_lawSays_0 X), (76, bX6_lawSays_76 X)]
def mX6_lawSays : jMt := (yX6_lawSays, cX6_lawSays, 4, (some .int), pX6_lawSays)
def bX6_learn_0 (X : jX) : jK := i_mask [true, true, true, false] <| i_iload 1 <| i_push (.int 12) <| i_imul <| i_iload 2 <| i_iadd <| i_istore 3 <| i_aload 0 <| i_getf 6 13 <| i_iload 3 <| i_iald <| i_if_ne X 75 16
def bX6_learn_16 (X : jX) : jK := i_mask [true, true, true, true] <| i_aload 0 <| i_getf 6 13 <| i_iload 3 <| i_aload 0 <| i_aload 0 <| i_push (.int 2) <| i_iload 2 <| i_aload 0 <| i_getf 6 3 <| i_iload 1 <| i_iald <| i_invV X 59 3 6 <| i_iload 1 <| i_invV X 65 2 6 <| i_iast <| i_aload 0 <| i_getf 6 12 <| i_iload 3 <| i_aload 0 <| i_aload 0 <| i_aload 0 <| i_iload 1 <| i_invV X 57 1 6 <| i_if_eq X 58 54
def bX6_learn_54 (X : jX) : jK := i_mask [true, true, true, true] <| i_push (.int 0) <| i_mask [true, true, true, true] <| i_goto X 59
def bX6_learn_58 (X : jX) : jK := i_mask [true, true, true, true] <| i_push (.int 1) <| i_mask [true, true, true, true] <| i_goto X 59
def bX6_learn_59 (X : jX) : jK := i_mask [true, true, true, true] <| i_iload 2 <| i_aload 0 <| i_getf 6 3 <| i_iload 1 <| i_iald <| i_invV X 59 3 6 <| i_iload 1 <| i_iload 2 <| i_invV X 61 3 6 <| i_iast <| i_mask [false, false, false, true] <| i_goto X 75
def bX6_learn_75 (X : jX) : jK := i_mask [false, false, false, true] <| i_iload 3 <| i_ireturn X
def pX6_learn : jX → Nat → jK := fun X => jpick [(0, bX6_learn_0 X), (16, bX6_learn_16 X), (54, bX6_learn_54 X), (58, bX6_learn_58 X), (59, bX6_learn_59 X), (75, bX6_learn_75 X)]
def mX6_learn : jMt := (yX6_learn, cX6_learn, 4, (some .int), pX6_learn)
def bX6_likelyBy_0 (X : jX) : jK := i_mask [true, true, true, true] <| i_aload 0 <| i_getf 6 2 <| i_iload 2 <| i_iald <| i_sw X [(1, 40), (2, 51), (3, 62), (4, 108), (5, 76)] 108
def bX6_likelyBy_40 (X : jX) : jK := i_mask [true, true, true, false] <| i_iload 1 <| i_aload 0 <| i_getf 6 4 <| i_iload 2 <| i_iald <| i_invS X 62 2 <| i_ireturn X
def bX6_likelyBy_51 (X : jX) : jK := i_mask [true, true, true, false] <| i_iload 1 <| i_aload 0 <| i_getf 6 4 <| i_iload 2 <| i_iald <| i_invS X 63 2 <| i_ireturn X
def bX6_likelyBy_62 (X : jX) : jK := i_mask [true, true, true, false] <| i_iload 1 <| i_aload 0 <| i_getf 6 4 <| i_iload 2 <| i_iald <| i_invS X 62 2 <| i_invS X 64 1 <| i_ireturn X
def bX6_likelyBy_76 (X : jX) : jK := i_mask [true, true, true, true] <| i_aload 0 <| i_getf 6 0 <| i_aload 0 <| i_getf 6 14 <| i_iload 3 <| i_invV X 39 2 4 <| i_push (.int 2) <| i_aload 0 <| i_getf 6 4 <| i_iload 2 <| i_iald <| i_imul <| i_cmp_gt X 104 99
def bX6_likelyBy_99 (X : jX) : jK := i_mask [false, false, false, false] <| i_push (.int 100) <| i_mask [false, false, false, false] <| i_goto X 107
def bX6_likelyBy_104 (X : jX) : jK := i_mask [false, true, false, false] <| i_iload 1 <| i_push (.int 2) <| i_idiv <| i_mask [false, false, false, false] <| i_goto X 107
def bX6_likelyBy_107 (X : jX) : jK := i_mask [false, false, false, false] <| i_ireturn X
def bX6_likelyBy_108 (X : jX) : jK := i_mask [false, true, false, false] <| i_iload 1 <| i_ireturn X
def pX6_likelyBy : jX → Nat → jK := fun X => jpick [(0, bX6_likelyBy_0 X), (40, bX6_likelyBy_40 X), (51, bX6_likelyBy_51 X), (62, bX6_likelyBy_62 X), (76, bX6_likelyBy_76 X), (99, bX6_likelyBy_99 X), (104, bX6_likelyBy_104 X), (107, bX6_likelyBy_107 X), (108, bX6_likelyBy_108 X)]
def mX6_likelyBy : jMt := (yX6_likelyBy, cX6_likelyBy, 4, (some .int), pX6_likelyBy)
def bX6_rowed_0 (X : jX) : jK := i_mask [true, true] <| i_push (.int 100) <| i_iload 0 <| i_push (.int 3) <| i_iload 1 <| i_imul <| i_iadd <| i_mmin X <| i_ireturn X
def pX6_rowed : jX → Nat → jK := fun X => jpick [(0, bX6_rowed_0 X)]
def mX6_rowed : jMt := (yX6_rowed, cX6_rowed, 2, (some .int), pX6_rowed)
def bX6_figured_0 (X : jX) : jK := i_mask [true, true, false, false, false] <| i_push (.int 100) <| i_iload 0 <| i_push (.int 10) <| i_iadd <| i_mmin X <| i_istore 2 <| i_push (.int 100) <| i_istore 3 <| i_push (.int 0) <| i_istore 4 <| i_mask [false, true, true, true, true] <| i_goto X 16
def bX6_figured_16 (X : jX) : jK := i_mask [false, true, true, true, true] <| i_iload 4 <| i_iload 1 <| i_cmp_gt X 35 22
def bX6_figured_22 (X : jX) : jK := i_mask [false, true, true, true, true] <| i_iload 3 <| i_iload 2 <| i_imul <| i_push (.int 100) <| i_idiv <| i_istore 3 <| i_iinc 4 1 <| i_mask [false, true, true, true, true] <| i_goto X 16
def bX6_figured_35 (X : jX) : jK := i_mask [false, false, false, true, false] <| i_iload 3 <| i_ireturn X
def pX6_figured : jX → Nat → jK := fun X => jpick [(0, bX6_figured_0 X), (16, bX6_figured_16 X), (22, bX6_figured_22 X), (35, bX6_figured_35 X)]
def mX6_figured : jMt := (yX6_figured, cX6_figured, 5, (some .int), pX6_figured)
def bX6_twice_0 (X : jX) : jK := i_mask [true] <| i_iload 0 <| i_push (.int 100) <| i_iload 0 <| i_isub <| i_iload 0 <| i_imul <| i_push (.int 100) <| i_idiv <| i_iadd <| i_ireturn X
def pX6_twice : jX → Nat → jK := fun X => jpick [(0, bX6_twice_0 X)]
def mX6_twice : jMt := (yX6_twice, cX6_twice, 1, (some .int), pX6_twice)
def bX6_takesBy_0 (X : jX) : jK := i_mask [true, true, true] <| i_aload 0 <| i_getf 6 2 <| i_iload 2 <| i_iald <| i_sw X [(2, 36), (3, 47), (4, 55), (5, 51)] 55
def bX6_takesBy_36 (X : jX) : jK := i_mask [true, true, true] <| i_iload 1 <| i_aload 0 <| i_getf 6 4 <| i_iload 2 <| i_iald <| i_push (.int 3) <| i_idiv <| i_iadd <| i_ireturn X
def bX6_takesBy_47 (X : jX) : jK := i_mask [false, true, false] <| i_push (.int 2) <| i_iload 1 <| i_imul <| i_ireturn X
def bX6_takesBy_51 (X : jX) : jK := i_mask [false, true, false] <| i_iload 1 <| i_push (.int 1) <| i_iadd <| i_ireturn X
def bX6_takesBy_55 (X : jX) : jK := i_mask [false, true, false] <| i_iload 1 <| i_ireturn X
def pX6_takesBy : jX → Nat → jK := fun X => jpick [(0, bX6_takesBy_0 X), (36, bX6_takesBy_36 X), (47, bX6_takesBy_47 X), (51, bX6_takesBy_51 X), (55, bX6_takesBy_55 X)]
def mX6_takesBy : jMt := (yX6_takesBy, cX6_takesBy, 3, (some .int), pX6_takesBy)
def bX6_worthAsTheyCame_0 (X : jX) : jK := i_mask [true, true] <| i_aload 0 <| i_iload 1 <| i_invV X 58 1 6 <| i_aload 0 <| i_aload 0 <| i_push (.int (-1)) <| i_invV X 68 1 6 <| i_invV X 70 1 6 <| i_lreturn X
def pX6_worthAsTheyCame : jX → Nat → jK := fun X => jpick [(0, bX6_worthAsTheyCame_0 X)]
def mX6_worthAsTheyCame : jMt := (yX6_worthAsTheyCame, cX6_worthAsTheyCame, 2, (some .long), pX6_worthAsTheyCame)
def bX6_worthWithout_0 (X : jX) : jK := i_mask [true, true] <| i_aload 0 <| i_aload 0 <| i_iload 1 <| i_invV X 68 1 6 <| i_invV X 70 1 6 <| i_lreturn X
def pX6_worthWithout : jX → Nat → jK := fun X => jpick [(0, bX6_worthWithout_0 X)]
def mX6_worthWithout : jMt := (yX6_worthWithout, cX6_worthWithout, 2, (some .long), pX6_worthWithout)
def bX6_orderWithout_0 (X : jX) : jK := i_mask [true, true, false, false] <| i_push (.int 0) <| i_istore 2 <| i_push (.int 0) <| i_istore 3 <| i_mask [true, true, true, true] <| i_goto X 4
def bX6_orderWithout_4 (X : jX) : jK := i_mask [true, true, true, true] <| i_iload 3 <| i_aload 0 <| i_getf 6 5 <| i_cmp_ge X 33 12
def bX6_orderWithout_12 (X : jX) : jK := i_mask [true, true, true, true] <| i_iload 3 <| i_iload 1 <| i_cmp_eq X 27 17
def bX6_orderWithout_17 (X : jX) : jK := i_mask [true, true, true, true] <| i_aload 0 <| i_getf 6 10 <| i_iload 2 <| i_iload 3 <| i_iast <| i_iinc 2 1 <| i_mask [true, true, true, true] <| i_goto X 27
def bX6_orderWithout_27 (X : jX) : jK := i_mask [true, true, true, true] <| i_iinc 3 1 <| i_mask [true, true, true, true] <| i_goto X 4
def bX6_orderWithout_33 (X : jX) : jK := i_mask [false, false, true, false] <| i_iload 2 <| i_ireturn X
def pX6_orderWithout : jX → Nat → jK := fun X => jpick [(0, bX6_orderWithout_0 X), (4, bX6_orderWithout_4 X), (12, bX6_orderWithout_12 X), (17, bX6_orderWithout_17 X), (27, bX6_orderWithout_27 X), (33, bX6_orderWithout_33 X)]
def mX6_orderWithout : jMt := (yX6_orderWithout, cX6_orderWithout, 4, (some .int), pX6_orderWithout)
def bX6_worthByNumbers_0 (X : jX) : jK := i_mask [true, true, true, false, false, false] <| i_iload 2 <| i_aload 0 <| i_getf 6 5 <| i_cmp_le X 12 8
def bX6_worthByNumbers_8 (X : jX) : jK := i_mask [false, false, false, false, false, false] <| i_push (.long (-4611686018427387904)) <| i_lreturn X
def bX6_worthByNumbers_12 (X : jX) : jK := i_mask [true, true, true, false, false, false] <| i_push (.int 0) <| i_istore 3 <| i_push (.int 0) <| i_istore 4 <| i_mask [true, true, true, true, true, false] <| i_goto X 17
def bX6_worthByNumbers_17 (X : jX) : jK := i_mask [true, true, true, true, true, false] <| i_iload 4 <| i_iload 2 <| i_cmp_ge X 79 23
def bX6_worthByNumbers_23 (X : jX) : jK := i_mask [true, true, true, true, true, false] <| i_aload 1 <| i_iload 4 <| i_iald <| i_istore 5 <| i_iload 5 <| i_push (.int 0) <| i_aload 0 <| i_getf 6 5 <| i_push (.int 1) <| i_isub <| i_invS X 152 3 <| i_if_eq X 53 44
def bX6_worthByNumbers_44 (X : jX) : jK := i_mask [true, true, true, true, true, true] <| i_iload 3 <| i_iload 5 <| i_ishr <| i_push (.int 1) <| i_iand <| i_if_eq X 57 53
def bX6_worthByNumbers_53 (X : jX) : jK := i_mask [false, false, false, false, false, false] <| i_push (.long (-4611686018427387904)) <| i_lreturn X
def bX6_worthByNumbers_57 (X : jX) : jK := i_mask [true, true, true, true, true, true] <| i_iload 3 <| i_push (.int 1) <| i_iload 5 <| i_ishl <| i_ior <| i_istore 3 <| i_aload 0 <| i_getf 6 10 <| i_iload 4 <| i_iload 5 <| i_iast <| i_iinc 4 1 <| i_mask [true, true, true, true, true, false] <| i_goto X 17
def bX6_worthByNumbers_79 (X : jX) : jK := i_mask [true, false, true, false, false, false] <| i_aload 0 <| i_aload 0 <| i_getf 6 0 <| i_invV X 33 0 4 <| i_invV X 58 1 6 <| i_aload 0 <| i_iload 2 <| i_invV X 70 1 6 <| i_lreturn X
def pX6_worthByNumbers : jX → Nat → jK := fun X => jpick [(0, bX6_worthByNumbers_0 X), (8, bX6_worthByNumbers_8 X), (12, bX6_worthByNumbers_12 X), (17, bX6_worthByNumbers_17 X), (23, bX6_worthByNumbers_23 X), (44, bX6_worthByNumbers_44 X), (53, bX6_worthByNumbers_53 X), (57, bX6_worthByNumbers_57 X), (79, bX6_worthByNumbers_79 X)]
def mX6_worthByNumbers : jMt := (yX6_worthByNumbers, cX6_worthByNumbers, 6, (some .long), pX6_worthByNumbers)
def bX6_walk_0 (X : jX) : jK := i_mask [true, true, false, false, false, false, false, false] <| i_aload 0 <| i_getf 6 6 <| i_push (.int (-1)) <| i_invS X 275 2 <| i_aload 0 <| i_getf 6 7 <| i_push (.int 0) <| i_invS X 275 2 <| i_aload 0 <| i_getf 6 8 <| i_push (.int 1000000) <| i_invS X 275 2 <| i_aload 0 <| i_push (.int 0) <| i_putI 6 9 <| i_aload 0 <| i_getf 6 0 <| i_invV X 36 0 4 <| i_istore 2 <| i_push (.int 0) <| i_istore 3 <| i_push (.int 0) <| i_istore 4 <| i_mask [true, true, true, true, true, false, false, false] <| i_goto X 43
def bX6_walk_43 (X : jX) : jK := i_mask [true, true, true, true, true, false, false, false] <| i_iload 4 <| i_iload 1 <| i_cmp_ge X 168 49
def bX6_walk_49 (X : jX) : jK := i_mask [true, true, true, true, true, false, false, false] <| i_iload 3 <| i_iload 2 <| i_cmp_ge X 168 54
def bX6_walk_54 (X : jX) : jK := i_mask [true, true, true, true, true, false, false, false] <| i_aload 0 <| i_getf 6 10 <| i_iload 4 <| i_iald <| i_istore 5 <| i_aload 0 <| i_getf 6 6 <| i_iload 5 <| i_iload 3 <| i_iast <| i_aload 0 <| i_iload 5 <| i_iload 3 <| i_invV X 60 2 6 <| i_istore 6 <| i_iload 3 <| i_aload 0 <| i_getf 6 13 <| i_iload 6 <| i_iald <| i_iadd <| i_istore 7 <| i_iload 7 <| i_iload 2 <| i_cmp_gt X 159 97
def bX6_walk_97 (X : jX) : jK := i_mask [true, true, true, false, true, true, true, true] <| i_aload 0 <| i_getf 6 7 <| i_iload 5 <| i_aload 0 <| i_getf 6 12 <| i_iload 6 <| i_iald <| i_iast <| i_aload 0 <| i_getf 6 8 <| i_aload 0 <| i_getf 6 3 <| i_iload 5 <| i_iald <| i_aload 0 <| i_getf 6 8 <| i_aload 0 <| i_getf 6 3 <| i_iload 5 <| i_iald <| i_iald <| i_push (.int 100) <| i_aload 0 <| i_getf 6 7 <| i_iload 5 <| i_iald <| i_isub <| i_imul <| i_push (.int 100) <| i_idiv <| i_iast <| i_aload 0 <| i_dup <| i_getf 6 9 <| i_push (.int 1) <| i_iadd <| i_putI 6 9 <| i_mask [true, true, true, false, true, false, false, true] <| i_goto X 159
def bX6_walk_159 (X : jX) : jK := i_mask [true, true, true, false, true, false, false, true] <| i_iload 7 <| i_istore 3 <| i_iinc 4 1 <| i_mask [true, true, true, true, true, false, false, false] <| i_goto X 43
def bX6_walk_168 (X : jX) : jK := i_mask [true, false, false, false, false, false, false, false] <| i_aload 0 <| i_invV X 71 0 6 <| i_lreturn X
def pX6_walk : jX → Nat → jK := fun X => jpick [(0, bX6_walk_0 X), (43, bX6_walk_43 X), (49, bX6_walk_49 X), (54, bX6_walk_54 X), (97, bX6_walk_97 X), (159, bX6_walk_159 X), (168, bX6_walk_168 X)]
def mX6_walk : jMt := (yX6_walk, cX6_walk, 8, (some .long), pX6_walk)
def bX6_worthHad_0 (X : jX) : jK := i_mask [true, false, false, false] <| i_push (.long 0) <| i_lstore 1 <| i_push (.int 0) <| i_istore 3 <| i_mask [true, true, false, true] <| i_goto X 4
def bX6_worthHad_4 (X : jX) : jK := i_mask [true, true, false, true] <| i_iload 3 <| i_push (.int 6) <| i_cmp_ge X 40 10
def bX6_worthHad_10 (X : jX) : jK := i_mask [true, true, false, true] <| i_lload 1 <| i_push (.int 1000000) <| i_aload 0 <| i_getf 6 8 <| i_iload 3 <| i_iald <| i_isub <| i_i2l <| i_aload 0 <| i_getf 6 0 <| i_getf 4 1 <| i_iload 3 <| i_iald <| i_i2l <| i_lmul <| i_ladd <| i_lstore 1 <| i_iinc 3 1 <| i_mask [true, true, false, true] <| i_goto X 4
def bX6_worthHad_40 (X : jX) : jK := i_mask [false, true, false, false] <| i_lload 1 <| i_lreturn X
def pX6_worthHad : jX → Nat → jK := fun X => jpick [(0, bX6_worthHad_0 X), (4, bX6_worthHad_4 X), (10, bX6_worthHad_10 X), (40, bX6_worthHad_40 X)]
def mX6_worthHad : jMt := (yX6_worthHad, cX6_worthHad, 4, (some .long), pX6_worthHad)
def bX6_orderAsDigits_0 (X : jX) : jK := i_mask [true, false, false, false] <| i_push (.long 0) <| i_lstore 1 <| i_push (.int 0) <| i_istore 3 <| i_mask [true, true, false, true] <| i_goto X 4
def bX6_orderAsDigits_4 (X : jX) : jK := i_mask [true, true, false, true] <| i_iload 3 <| i_aload 0 <| i_getf 6 5 <| i_cmp_ge X 34 12
def bX6_orderAsDigits_12 (X : jX) : jK := i_mask [true, true, false, true] <| i_push (.long 10) <| i_lload 1 <| i_lmul <| i_aload 0 <| i_getf 6 10 <| i_iload 3 <| i_iald <| i_i2l <| i_ladd <| i_push (.long 1) <| i_ladd <| i_lstore 1 <| i_iinc 3 1 <| i_mask [true, true, false, true] <| i_goto X 4
def bX6_orderAsDigits_34 (X : jX) : jK := i_mask [false, true, false, false] <| i_lload 1 <| i_lreturn X
def pX6_orderAsDigits : jX → Nat → jK := fun X => jpick [(0, bX6_orderAsDigits_0 X), (4, bX6_orderAsDigits_4 X), (12, bX6_orderAsDigits_12 X), (34, bX6_orderAsDigits_34 X)]
def mX6_orderAsDigits : jMt := (yX6_orderAsDigits, cX6_orderAsDigits, 4, (some .long), pX6_orderAsDigits)
def bX6_tryAllOrders_0 (X : jX) : jK := i_mask [true, false, false, false, false, false, false] <| i_push (.long (-1)) <| i_lstore 1 <| i_push (.int 1) <| i_istore 3 <| i_push (.int 0) <| i_istore 4 <| i_mask [true, true, false, true, true, false, false] <| i_goto X 9
def bX6_tryAllOrders_9 (X : jX) : jK := i_mask [true, true, false, true, true, false, false] <| i_iload 4 <| i_push (.int 120) <| i_cmp_ge X 68 16
def bX6_tryAllOrders_16 (X : jX) : jK := i_mask [true, true, false, true, true, false, false] <| i_iload 3 <| i_if_eq X 68 20
def bX6_tryAllOrders_20 (X : jX) : jK := i_mask [true, true, false, false, true, false, false] <| i_aload 0 <| i_aload 0 <| i_getf 6 5 <| i_invV X 70 1 6 <| i_lstore 5 <| i_lload 5 <| i_lload 1 <| i_lcmp <| i_if_le X 57 37
def bX6_tryAllOrders_37 (X : jX) : jK := i_mask [true, false, false, false, true, true, false] <| i_lload 5 <| i_lstore 1 <| i_aload 0 <| i_getf 6 10 <| i_push (.int 0) <| i_aload 0 <| i_getf 6 11 <| i_push (.int 0) <| i_aload 0 <| i_getf 6 5 <| i_copy <| i_mask [true, true, false, false, true, false, false] <| i_goto X 57
def bX6_tryAllOrders_57 (X : jX) : jK := i_mask [true, true, false, false, true, false, false] <| i_aload 0 <| i_invV X 74 0 6 <| i_istore 3 <| i_iinc 4 1 <| i_mask [true, true, false, true, true, false, false] <| i_goto X 9
def bX6_tryAllOrders_68 (X : jX) : jK := i_mask [true, true, false, false, false, false, false] <| i_aload 0 <| i_getf 6 11 <| i_push (.int 0) <| i_aload 0 <| i_getf 6 10 <| i_push (.int 0) <| i_aload 0 <| i_getf 6 5 <| i_copy <| i_lload 1 <| i_lreturn X
def pX6_tryAllOrders : jX → Nat → jK := fun X => jpick [(0, bX6_tryAllOrders_0 X), (9, bX6_tryAllOrders_9 X), (16, bX6_tryAllOrders_16 X), (20, bX6_tryAllOrders_20 X), (37, bX6_tryAllOrders_37 X), (57, bX6_tryAllOrders_57 X), (68, bX6_tryAllOrders_68 X)]
def mX6_tryAllOrders : jMt := (yX6_tryAllOrders, cX6_tryAllOrders, 7, (some .long), pX6_tryAllOrders)
def bX6_nextOrder_0 (X : jX) : jK := i_mask [true, false, false, false, false] <| i_aload 0 <| i_getf 6 5 <| i_push (.int 2) <| i_isub <| i_istore 1 <| i_mask [true, true, false, false, false] <| i_goto X 7
def bX6_nextOrder_7 (X : jX) : jK := i_mask [true, true, false, false, false] <| i_iload 1 <| i_if_lt X 34 11
def bX6_nextOrder_11 (X : jX) : jK := i_mask [true, true, false, false, false] <| i_aload 0 <| i_getf 6 10 <| i_iload 1 <| i_iald <| i_aload 0 <| i_getf 6 10 <| i_iload 1 <| i_push (.int 1) <| i_iadd <| i_iald <| i_cmp_le X 34 28
def bX6_nextOrder_28 (X : jX) : jK := i_mask [true, true, false, false, false] <| i_iinc 1 (-1) <| i_mask [true, true, false, false, false] <| i_goto X 7
def bX6_nextOrder_34 (X : jX) : jK := i_mask [true, true, false, false, false] <| i_iload 1 <| i_if_ge X 40 38
def bX6_nextOrder_38 (X : jX) : jK := i_mask [false, false, false, false, false] <| i_push (.int 0) <| i_ireturn X
def bX6_nextOrder_40 (X : jX) : jK := i_mask [true, true, false, false, false] <| i_aload 0 <| i_getf 6 5 <| i_push (.int 1) <| i_isub <| i_istore 2 <| i_mask [true, true, true, false, false] <| i_goto X 47
def bX6_nextOrder_47 (X : jX) : jK := i_mask [true, true, true, false, false] <| i_iload 2 <| i_iload 1 <| i_cmp_le X 73 52
def bX6_nextOrder_52 (X : jX) : jK := i_mask [true, true, true, false, false] <| i_aload 0 <| i_getf 6 10 <| i_iload 2 <| i_iald <| i_aload 0 <| i_getf 6 10 <| i_iload 1 <| i_iald <| i_cmp_ge X 73 67
def bX6_nextOrder_67 (X : jX) : jK := i_mask [true, true, true, false, false] <| i_iinc 2 (-1) <| i_mask [true, true, true, false, false] <| i_goto X 47
def bX6_nextOrder_73 (X : jX) : jK := i_mask [true, true, true, false, false] <| i_aload 0 <| i_iload 1 <| i_iload 2 <| i_invV X 75 2 6 <| i_iload 1 <| i_push (.int 1) <| i_iadd <| i_istore 3 <| i_aload 0 <| i_getf 6 5 <| i_push (.int 1) <| i_isub <| i_istore 4 <| i_mask [true, false, false, true, true] <| i_goto X 91
def bX6_nextOrder_91 (X : jX) : jK := i_mask [true, false, false, true, true] <| i_iload 3 <| i_iload 4 <| i_cmp_ge X 113 97
def bX6_nextOrder_97 (X : jX) : jK := i_mask [true, false, false, true, true] <| i_aload 0 <| i_iload 3 <| i_iload 4 <| i_invV X 75 2 6 <| i_iinc 3 1 <| i_iinc 4 (-1) <| i_mask [true, false, false, true, true] <| i_goto X 91
def bX6_nextOrder_113 (X : jX) : jK := i_mask [false, false, false, false, false] <| i_push (.int 1) <| i_ireturn X
def pX6_nextOrder : jX → Nat → jK := fun X => jpick [(0, bX6_nextOrder_0 X), (7, bX6_nextOrder_7 X), (11, bX6_nextOrder_11 X), (28, bX6_nextOrder_28 X), (34, bX6_nextOrder_34 X), (38, bX6_nextOrder_38 X), (40, bX6_nextOrder_40 X), (47, bX6_nextOrder_47 X), (52, bX6_nextOrder_52 X), (67, bX6_nextOrder_67 X), (73, bX6_nextOrder_73 X), (91, bX6_nextOrder_91 X), (97, bX6_nextOrder_97 X), (113, bX6_nextOrder_113 X)]
def mX6_nextOrder : jMt := (yX6_nextOrder, cX6_nextOrder, 5, (some .boolean), pX6_nextOrder)
def bX6_exchange_0 (X : jX) : jK := i_mask [true, true, true, false] <| i_aload 0 <| i_getf 6 10 <| i_iload 1 <| i_iald <| i_istore 3 <| i_aload 0 <| i_getf 6 10 <| i_iload 1 <| i_aload 0 <| i_getf 6 10 <| i_iload 2 <| i_iald <| i_iast <| i_aload 0 <| i_getf 6 10 <| i_iload 2 <| i_iload 3 <| i_iast <| i_return X
def pX6_exchange : jX → Nat → jK := fun X => jpick [(0, bX6_exchange_0 X)]
def mX6_exchange : jMt := (yX6_exchange, cX6_exchange, 4, none, pX6_exchange)
def bX6_exchangeWhileBetter_0 (X : jX) : jK := i_mask [true, false, false, false, false, false, false] <| i_aload 0 <| i_aload 0 <| i_getf 6 5 <| i_invV X 70 1 6 <| i_lstore 1 <| i_push (.int 1) <| i_istore 3 <| i_push (.int 0) <| i_istore 4 <| i_mask [true, true, false, true, true, false, false] <| i_goto X 14
def bX6_exchangeWhileBetter_14 (X : jX) : jK := i_mask [true, true, false, true, true, false, false] <| i_iload 4 <| i_push (.int 40320) <| i_cmp_ge X 54 21
def bX6_exchangeWhileBetter_21 (X : jX) : jK := i_mask [true, true, false, true, true, false, false] <| i_iload 3 <| i_if_eq X 54 25
def bX6_exchangeWhileBetter_25 (X : jX) : jK := i_mask [true, true, false, false, true, false, false] <| i_lload 1 <| i_lstore 5 <| i_aload 0 <| i_lload 5 <| i_invV X 77 1 6 <| i_lstore 1 <| i_lload 1 <| i_lload 5 <| i_lcmp <| i_if_le X 46 42
def bX6_exchangeWhileBetter_42 (X : jX) : jK := i_mask [true, true, false, false, true, false, false] <| i_push (.int 1) <| i_mask [true, true, false, false, true, false, false] <| i_goto X 47
def bX6_exchangeWhileBetter_46 (X : jX) : jK := i_mask [true, true, false, false, true, false, false] <| i_push (.int 0) <| i_mask [true, true, false, false, true, false, false] <| i_goto X 47
def bX6_exchangeWhileBetter_47 (X : jX) : jK := i_mask [true, true, false, false, true, false, false] <| i_istore 3 <| i_iinc 4 1 <| i_mask [true, true, false, true, true, false, false] <| i_goto X 14
def bX6_exchangeWhileBetter_54 (X : jX) : jK := i_mask [false, true, false, false, false, false, false] <| i_lload 1 <| i_lreturn X
def pX6_exchangeWhileBetter : jX → Nat → jK := fun X => jpick [(0, bX6_exchangeWhileBetter_0 X), (14, bX6_exchangeWhileBetter_14 X), (21, bX6_exchangeWhileBetter_21 X), (25, bX6_exchangeWhileBetter_25 X), (42, bX6_exchangeWhileBetter_42 X), (46, bX6_exchangeWhileBetter_46 X), (47, bX6_exchangeWhileBetter_47 X), (54, bX6_exchangeWhileBetter_54 X)]
def mX6_exchangeWhileBetter : jMt := (yX6_exchangeWhileBetter, cX6_exchangeWhileBetter, 7, (some .long), pX6_exchangeWhileBetter)
def bX6_bestExchange_0 (X : jX) : jK := i_mask [true, true, false, false, false, false, false, false, false, false, false] <| i_lload 1 <| i_lstore 3 <| i_push (.int 0) <| i_istore 5 <| i_push (.int 0) <| i_istore 6 <| i_push (.int 0) <| i_istore 7 <| i_mask [true, false, false, true, false, true, true, true, false, false, false] <| i_goto X 11
def bX6_bestExchange_11 (X : jX) : jK := i_mask [true, false, false, true, false, true, true, true, false, false, false] <| i_iload 7 <| i_aload 0 <| i_getf 6 5 <| i_cmp_ge X 91 20
def bX6_bestExchange_20 (X : jX) : jK := i_mask [true, false, false, true, false, true, true, true, false, false, false] <| i_iload 7 <| i_push (.int 1) <| i_iadd <| i_istore 8 <| i_mask [true, false, false, true, false, true, true, true, true, false, false] <| i_goto X 26
def bX6_bestExchange_26 (X : jX) : jK := i_mask [true, false, false, true, false, true, true, true, true, false, false] <| i_iload 8 <| i_aload 0 <| i_getf 6 5 <| i_cmp_ge X 85 35
def bX6_bestExchange_35 (X : jX) : jK := i_mask [true, false, false, true, false, true, true, true, true, false, false] <| i_aload 0 <| i_iload 7 <| i_iload 8 <| i_invV X 75 2 6 <| i_aload 0 <| i_aload 0 <| i_getf 6 5 <| i_invV X 70 1 6 <| i_lstore 9 <| i_aload 0 <| i_iload 7 <| i_iload 8 <| i_invV X 75 2 6 <| i_lload 9 <| i_lload 3 <| i_lcmp <| i_if_le X 79 68
def bX6_bestExchange_68 (X : jX) : jK := i_mask [true, false, false, false, false, false, false, true, true, true, false] <| i_lload 9 <| i_lstore 3 <| i_iload 7 <| i_istore 5 <| i_iload 8 <| i_istore 6 <| i_mask [true, false, false, true, false, true, true, true, true, false, false] <| i_goto X 79
def bX6_bestExchange_79 (X : jX) : jK := i_mask [true, false, false, true, false, true, true, true, true, false, false] <| i_iinc 8 1 <| i_mask [true, false, false, true, false, true, true, true, true, false, false] <| i_goto X 26
def bX6_bestExchange_85 (X : jX) : jK := i_mask [true, false, false, true, false, true, true, true, false, false, false] <| i_iinc 7 1 <| i_mask [true, false, false, true, false, true, true, true, false, false, false] <| i_goto X 11
def bX6_bestExchange_91 (X : jX) : jK := i_mask [true, false, false, true, false, true, true, false, false, false, false] <| i_aload 0 <| i_iload 5 <| i_iload 6 <| i_invV X 75 2 6 <| i_lload 3 <| i_lreturn X
def pX6_bestExchange : jX → Nat → jK := fun X => jpick [(0, bX6_bestExchange_0 X), (11, bX6_bestExchange_11 X), (20, bX6_bestExchange_20 X), (26, bX6_bestExchange_26 X), (35, bX6_bestExchange_35 X), (68, bX6_bestExchange_68 X), (79, bX6_bestExchange_79 X), (85, bX6_bestExchange_85 X), (91, bX6_bestExchange_91 X)]
def mX6_bestExchange : jMt := (yX6_bestExchange, cX6_bestExchange, 11, (some .long), pX6_bestExchange)
def bX6_drawnSayings_0 (X : jX) : jK := i_mask [true, true, false, false, false, false] <| i_aload 0 <| i_aload 0 <| i_getf 6 0 <| i_invV X 33 0 4 <| i_invV X 66 1 6 <| i_pop2 <| i_iload 1 <| i_push (.int 1) <| i_iadd <| i_i2l <| i_lstore 2 <| i_push (.int 0) <| i_istore 4 <| i_push (.int 0) <| i_istore 5 <| i_mask [true, false, true, false, true, true] <| i_goto X 23
def bX6_drawnSayings_23 (X : jX) : jK := i_mask [true, false, true, false, true, true] <| i_iload 5 <| i_aload 0 <| i_getf 6 5 <| i_cmp_ge X 85 32
def bX6_drawnSayings_32 (X : jX) : jK := i_mask [true, false, true, false, true, true] <| i_aload 0 <| i_getf 6 7 <| i_iload 5 <| i_iald <| i_push (.int 1) <| i_cmp_lt X 79 43
def bX6_drawnSayings_43 (X : jX) : jK := i_mask [true, false, true, false, true, true] <| i_lload 2 <| i_push (.long 48271) <| i_lmul <| i_push (.long 2147483647) <| i_lrem <| i_lstore 2 <| i_lload 2 <| i_push (.long 100) <| i_lrem <| i_aload 0 <| i_getf 6 7 <| i_iload 5 <| i_iald <| i_i2l <| i_lcmp <| i_if_ge X 79 70
def bX6_drawnSayings_70 (X : jX) : jK := i_mask [true, false, true, false, true, true] <| i_iload 4 <| i_push (.int 1) <| i_iload 5 <| i_ishl <| i_ior <| i_istore 4 <| i_mask [true, false, true, false, true, true] <| i_goto X 79
def bX6_drawnSayings_79 (X : jX) : jK := i_mask [true, false, true, false, true, true] <| i_iinc 5 1 <| i_mask [true, false, true, false, true, true] <| i_goto X 23
def bX6_drawnSayings_85 (X : jX) : jK := i_mask [false, false, false, false, true, false] <| i_iload 4 <| i_ireturn X
def pX6_drawnSayings : jX → Nat → jK := fun X => jpick [(0, bX6_drawnSayings_0 X), (23, bX6_drawnSayings_23 X), (32, bX6_drawnSayings_32 X), (43, bX6_drawnSayings_43 X), (70, bX6_drawnSayings_70 X), (79, bX6_drawnSayings_79 X), (85, bX6_drawnSayings_85 X)]
def mX6_drawnSayings : jMt := (yX6_drawnSayings, cX6_drawnSayings, 6, (some .int), pX6_drawnSayings)
def bX6_thingsOf_0 (X : jX) : jK := i_mask [true, true, false, false] <| i_push (.int 0) <| i_istore 2 <| i_push (.int 0) <| i_istore 3 <| i_mask [true, true, true, true] <| i_goto X 4
def bX6_thingsOf_4 (X : jX) : jK := i_mask [true, true, true, true] <| i_iload 3 <| i_aload 0 <| i_getf 6 5 <| i_cmp_ge X 37 12
def bX6_thingsOf_12 (X : jX) : jK := i_mask [true, true, true, true] <| i_iload 1 <| i_iload 3 <| i_ishr <| i_push (.int 1) <| i_iand <| i_if_eq X 31 20
def bX6_thingsOf_20 (X : jX) : jK := i_mask [true, true, true, true] <| i_iload 2 <| i_push (.int 1) <| i_aload 0 <| i_getf 6 3 <| i_iload 3 <| i_iald <| i_ishl <| i_ior <| i_istore 2 <| i_mask [true, true, true, true] <| i_goto X 31
def bX6_thingsOf_31 (X : jX) : jK := i_mask [true, true, true, true] <| i_iinc 3 1 <| i_mask [true, true, true, true] <| i_goto X 4
def bX6_thingsOf_37 (X : jX) : jK := i_mask [false, false, true, false] <| i_iload 2 <| i_ireturn X
def pX6_thingsOf : jX → Nat → jK := fun X => jpick [(0, bX6_thingsOf_0 X), (4, bX6_thingsOf_4 X), (12, bX6_thingsOf_12 X), (20, bX6_thingsOf_20 X), (31, bX6_thingsOf_31 X), (37, bX6_thingsOf_37 X)]
def mX6_thingsOf : jMt := (yX6_thingsOf, cX6_thingsOf, 4, (some .int), pX6_thingsOf)
def bX7_init_0 (X : jX) : jK := i_mask [true] <| i_aload 0 <| i_objInit <| i_aload 0 <| i_push (.int 4) <| i_push (.int 40) <| i_mna X <| i_putR 7 0 <| i_aload 0 <| i_push (.int 4) <| i_newI X <| i_dup <| i_push (.int 0) <| i_push (.int (-1)) <| i_iast <| i_dup <| i_push (.int 1) <| i_push (.int (-1)) <| i_iast <| i_dup <| i_push (.int 2) <| i_push (.int (-1)) <| i_iast <| i_dup <| i_push (.int 3) <| i_push (.int (-1)) <| i_iast <| i_putR 7 1 <| i_aload 0 <| i_push (.int 4) <| i_newI X <| i_putR 7 2 <| i_return X
def pX7_init : jX → Nat → jK := fun X => jpick [(0, bX7_init_0 X)]
def mX7_init : jMt := (yX7_init, cX7_init, 1, none, pX7_init)
def bX7_renew_0 (X : jX) : jK := i_mask [true, true, true, true] <| i_aload 0 <| i_getf 7 0 <| i_iload 1 <| i_aald <| i_push (.int 0) <| i_invS X 275 2 <| i_aload 0 <| i_getf 7 1 <| i_iload 1 <| i_iload 2 <| i_iast <| i_aload 0 <| i_getf 7 2 <| i_iload 1 <| i_iload 3 <| i_iast <| i_push (.int 1) <| i_ireturn X
def pX7_renew : jX → Nat → jK := fun X => jpick [(0, bX7_renew_0 X)]
def mX7_renew : jMt := (yX7_renew, cX7_renew, 4, (some .int), pX7_renew)
def bX7_write_0 (X : jX) : jK := i_mask [true, true, true, true] <| i_aload 0 <| i_getf 7 1 <| i_iload 1 <| i_iald <| i_if_ne X 22 9
def bX7_write_9 (X : jX) : jK := i_mask [true, true, true, true] <| i_aload 0 <| i_getf 7 0 <| i_iload 1 <| i_aald <| i_iload 2 <| i_iload 3 <| i_i2b <| i_iast <| i_mask [false, false, false, false] <| i_goto X 46
def bX7_write_22 (X : jX) : jK := i_mask [true, true, true, true] <| i_aload 0 <| i_getf 7 0 <| i_iload 1 <| i_aald <| i_iload 2 <| i_aload 0 <| i_getf 7 1 <| i_iload 1 <| i_iald <| i_push (.int 1) <| i_cmp_ne X 44 39
def bX7_write_39 (X : jX) : jK := i_mask [false, false, false, true] <| i_iload 3 <| i_i2s <| i_mask [false, false, false, false] <| i_goto X 45
def bX7_write_44 (X : jX) : jK := i_mask [false, false, false, true] <| i_iload 3 <| i_mask [false, false, false, false] <| i_goto X 45
def bX7_write_45 (X : jX) : jK := i_mask [false, false, false, false] <| i_iast <| i_mask [false, false, false, false] <| i_goto X 46
def bX7_write_46 (X : jX) : jK := i_mask [false, false, false, false] <| i_push (.int 1) <| i_ireturn X
def pX7_write : jX → Nat → jK := fun X => jpick [(0, bX7_write_0 X), (9, bX7_write_9 X), (22, bX7_write_22 X), (39, bX7_write_39 X), (44, bX7_write_44 X), (45, bX7_write_45 X), (46, bX7_write_46 X)]
def mX7_write : jMt := (yX7_write, cX7_write, 4, (some .int), pX7_write)
def bX7_holds_0 (X : jX) : jK := i_mask [true, true, true, true] <| i_iload 3 <| i_if_lt X 24 4
def bX7_holds_4 (X : jX) : jK := i_mask [true, true, true, true] <| i_iload 2 <| i_if_lt X 24 8
def bX7_holds_8 (X : jX) : jK := i_mask [true, true, true, true] <| i_iload 2 <| i_aload 0 <| i_getf 7 2 <| i_iload 1 <| i_iald <| i_iload 3 <| i_isub <| i_cmp_gt X 24 20
def bX7_holds_20 (X : jX) : jK := i_mask [false, false, false, false] <| i_push (.int 1) <| i_mask [false, false, false, false] <| i_goto X 25
def bX7_holds_24 (X : jX) : jK := i_mask [false, false, false, false] <| i_push (.int 0) <| i_mask [false, false, false, false] <| i_goto X 25
def bX7_holds_25 (X : jX) : jK := i_mask [false, false, false, false] <| i_ireturn X
def pX7_holds : jX → Nat → jK := fun X => jpick [(0, bX7_holds_0 X), (4, bX7_holds_4 X), (8, bX7_holds_8 X), (20, bX7_holds_20 X), (24, bX7_holds_24 X), (25, bX7_holds_25 X)]
def mX7_holds : jMt := (yX7_holds, cX7_holds, 4, (some .boolean), pX7_holds)
def bX8_init_0 (X : jX) : jK := i_mask [true] <| i_aload 0 <| i_objInit <| i_aload 0 <| i_push (.int 160) <| i_newI X <| i_putR 8 0 <| i_aload 0 <| i_push (.int 161) <| i_newI X <| i_putR 8 2 <| i_aload 0 <| i_push (.int 161) <| i_newI X <| i_putR 8 3 <| i_return X
def pX8_init : jX → Nat → jK := fun X => jpick [(0, bX8_init_0 X)]
def mX8_init : jMt := (yX8_init, cX8_init, 1, none, pX8_init)
def bX8_put_0 (X : jX) : jK := i_mask [true, true] <| i_aload 0 <| i_getf 8 1 <| i_push (.int 160) <| i_cmp_ge X 30 10
def bX8_put_10 (X : jX) : jK := i_mask [true, true] <| i_aload 0 <| i_getf 8 0 <| i_aload 0 <| i_getf 8 1 <| i_iload 1 <| i_iast <| i_aload 0 <| i_dup <| i_getf 8 1 <| i_push (.int 1) <| i_iadd <| i_putI 8 1 <| i_mask [false, false] <| i_goto X 30
def bX8_put_30 (X : jX) : jK := i_mask [false, false] <| i_return X
def pX8_put : jX → Nat → jK := fun X => jpick [(0, bX8_put_0 X), (10, bX8_put_10 X), (30, bX8_put_30 X)]
def mX8_put : jMt := (yX8_put, cX8_put, 2, none, pX8_put)
def bX8_cutUp_0 (X : jX) : jK := i_mask [true, false, false] <| i_aload 0 <| i_push (.int 0) <| i_putI 8 4 <| i_aload 0 <| i_push (.int 0) <| i_putI 8 5 <| i_push (.int 1) <| i_istore 1 <| i_mask [true, true, false] <| i_goto X 12
def bX8_cutUp_12 (X : jX) : jK := i_mask [true, true, false] <| i_iload 1 <| i_if_eq X 153 16
def bX8_cutUp_16 (X : jX) : jK := i_mask [true, false, false] <| i_aload 0 <| i_getf 8 4 <| i_push (.int 160) <| i_cmp_gt X 153 26
def bX8_cutUp_26 (X : jX) : jK := i_mask [true, false, false] <| i_aload 0 <| i_getf 8 5 <| i_aload 0 <| i_getf 8 1 <| i_cmp_ge X 78 37
def bX8_cutUp_37 (X : jX) : jK := i_mask [true, false, false] <| i_aload 0 <| i_getf 8 0 <| i_aload 0 <| i_getf 8 5 <| i_iald <| i_push (.int 32) <| i_cmp_eq X 65 51
def bX8_cutUp_51 (X : jX) : jK := i_mask [true, false, false] <| i_aload 0 <| i_getf 8 0 <| i_aload 0 <| i_getf 8 5 <| i_iald <| i_push (.int 10) <| i_cmp_ne X 78 65
def bX8_cutUp_65 (X : jX) : jK := i_mask [true, false, false] <| i_aload 0 <| i_dup <| i_getf 8 5 <| i_push (.int 1) <| i_iadd <| i_putI 8 5 <| i_mask [true, false, false] <| i_goto X 26
def bX8_cutUp_78 (X : jX) : jK := i_mask [true, false, false] <| i_aload 0 <| i_getf 8 3 <| i_aload 0 <| i_getf 8 4 <| i_aload 0 <| i_getf 8 5 <| i_iast <| i_aload 0 <| i_getf 8 5 <| i_aload 0 <| i_getf 8 1 <| i_cmp_ge X 113 102
def bX8_cutUp_102 (X : jX) : jK := i_mask [true, false, false] <| i_aload 0 <| i_aload 0 <| i_getf 8 5 <| i_invV X 87 1 8 <| i_mask [true, false, false] <| i_goto X 114
def bX8_cutUp_113 (X : jX) : jK := i_mask [true, false, false] <| i_push (.int 0) <| i_mask [true, false, false] <| i_goto X 114
def bX8_cutUp_114 (X : jX) : jK := i_mask [true, false, false] <| i_istore 2 <| i_aload 0 <| i_getf 8 2 <| i_aload 0 <| i_getf 8 4 <| i_iload 2 <| i_iast <| i_aload 0 <| i_dup <| i_getf 8 4 <| i_push (.int 1) <| i_iadd <| i_putI 8 4 <| i_iload 2 <| i_if_eq X 148 139
def bX8_cutUp_139 (X : jX) : jK := i_mask [true, false, true] <| i_iload 2 <| i_push (.int 1) <| i_cmp_eq X 148 144
def bX8_cutUp_144 (X : jX) : jK := i_mask [true, false, false] <| i_push (.int 1) <| i_mask [true, false, false] <| i_goto X 149
def bX8_cutUp_148 (X : jX) : jK := i_mask [true, false, false] <| i_push (.int 0) <| i_mask [true, false, false] <| i_goto X 149
def bX8_cutUp_149 (X : jX) : jK := i_mask [true, false, false] <| i_istore 1 <| i_mask [true, true, false] <| i_goto X 12
def bX8_cutUp_153 (X : jX) : jK := i_mask [false, false, false] <| i_return X
def pX8_cutUp : jX → Nat → jK := fun X => jpick [(0, bX8_cutUp_0 X), (12, bX8_cutUp_12 X), (16, bX8_cutUp_16 X), (26, bX8_cutUp_26 X), (37, bX8_cutUp_37 X), (51, bX8_cutUp_51 X), (65, bX8_cutUp_65 X), (78, bX8_cutUp_78 X), (102, bX8_cutUp_102 X), (113, bX8_cutUp_113 X), (114, bX8_cutUp_114 X), (139, bX8_cutUp_139 X), (144, bX8_cutUp_144 X), (148, bX8_cutUp_148 X), (149, bX8_cutUp_149 X), (153, bX8_cutUp_153 X)]
def mX8_cutUp : jMt := (yX8_cutUp, cX8_cutUp, 3, none, pX8_cutUp)
def bX8_tokenAt_0 (X : jX) : jK := i_mask [true, true] <| i_aload 0 <| i_getf 8 0 <| i_iload 1 <| i_iald <| i_invS X 92 1 <| i_if_eq X 57 12
def bX8_tokenAt_12 (X : jX) : jK := i_mask [true, true] <| i_aload 0 <| i_getf 8 5 <| i_aload 0 <| i_getf 8 1 <| i_cmp_ge X 51 23
def bX8_tokenAt_23 (X : jX) : jK := i_mask [true, true] <| i_aload 0 <| i_getf 8 0 <| i_aload 0 <| i_getf 8 5 <| i_iald <| i_invS X 92 1 <| i_if_eq X 51 38
def bX8_tokenAt_38 (X : jX) : jK := i_mask [true, true] <| i_aload 0 <| i_dup <| i_getf 8 5 <| i_push (.int 1) <| i_iadd <| i_putI 8 5 <| i_mask [true, true] <| i_goto X 12
def bX8_tokenAt_51 (X : jX) : jK := i_mask [true, true] <| i_aload 0 <| i_iload 1 <| i_invV X 88 1 8 <| i_ireturn X
def bX8_tokenAt_57 (X : jX) : jK := i_mask [true, true] <| i_aload 0 <| i_getf 8 0 <| i_iload 1 <| i_iald <| i_invS X 93 1 <| i_if_eq X 114 69
def bX8_tokenAt_69 (X : jX) : jK := i_mask [true, true] <| i_aload 0 <| i_getf 8 5 <| i_aload 0 <| i_getf 8 1 <| i_cmp_ge X 108 80
def bX8_tokenAt_80 (X : jX) : jK := i_mask [true, true] <| i_aload 0 <| i_getf 8 0 <| i_aload 0 <| i_getf 8 5 <| i_iald <| i_invS X 93 1 <| i_if_eq X 108 95
def bX8_tokenAt_95 (X : jX) : jK := i_mask [true, true] <| i_aload 0 <| i_dup <| i_getf 8 5 <| i_push (.int 1) <| i_iadd <| i_putI 8 5 <| i_mask [true, true] <| i_goto X 69
def bX8_tokenAt_108 (X : jX) : jK := i_mask [true, true] <| i_aload 0 <| i_iload 1 <| i_invV X 89 1 8 <| i_ireturn X
def bX8_tokenAt_114 (X : jX) : jK := i_mask [true, true] <| i_aload 0 <| i_dup <| i_getf 8 5 <| i_push (.int 1) <| i_iadd <| i_putI 8 5 <| i_push (.ref 10) <| i_aload 0 <| i_getf 8 0 <| i_iload 1 <| i_iald <| i_i2c <| i_invT X 263 1 <| i_if_lt X 148 139
def bX8_tokenAt_139 (X : jX) : jK := i_mask [true, true] <| i_aload 0 <| i_getf 8 0 <| i_iload 1 <| i_iald <| i_mask [false, false] <| i_goto X 149
def bX8_tokenAt_148 (X : jX) : jK := i_mask [false, false] <| i_push (.int 1) <| i_mask [false, false] <| i_goto X 149
def bX8_tokenAt_149 (X : jX) : jK := i_mask [false, false] <| i_ireturn X
def pX8_tokenAt : jX → Nat → jK := fun X => jpick [(0, bX8_tokenAt_0 X), (12, bX8_tokenAt_12 X), (23, bX8_tokenAt_23 X), (38, bX8_tokenAt_38 X), (51, bX8_tokenAt_51 X), (57, bX8_tokenAt_57 X), (69, bX8_tokenAt_69 X), (80, bX8_tokenAt_80 X), (95, bX8_tokenAt_95 X), (108, bX8_tokenAt_108 X), (114, bX8_tokenAt_114 X), (139, bX8_tokenAt_139 X), (148, bX8_tokenAt_148 X), (149, bX8_tokenAt_149 X)]
def mX8_tokenAt : jMt := (yX8_tokenAt, cX8_tokenAt, 2, (some .int), pX8_tokenAt)
def bX8_wordFrom_0 (X : jX) : jK := i_mask [true, true, false, false] <| i_aload 0 <| i_push (.ref 8) <| i_iload 1 <| i_invV X 90 2 8 <| i_istore 2 <| i_iload 2 <| i_if_lt X 18 12
def bX8_wordFrom_12 (X : jX) : jK := i_mask [false, false, true, false] <| i_push (.int 200) <| i_iload 2 <| i_iadd <| i_ireturn X
def bX8_wordFrom_18 (X : jX) : jK := i_mask [true, true, false, false] <| i_aload 0 <| i_push (.ref 9) <| i_iload 1 <| i_invV X 90 2 8 <| i_istore 3 <| i_iload 3 <| i_if_lt X 38 30
def bX8_wordFrom_30 (X : jX) : jK := i_mask [false, false, false, true] <| i_push (.int 300) <| i_iload 3 <| i_iadd <| i_mask [false, false, false, false] <| i_goto X 39
def bX8_wordFrom_38 (X : jX) : jK := i_mask [false, false, false, false] <| i_push (.int 1) <| i_mask [false, false, false, false] <| i_goto X 39
def bX8_wordFrom_39 (X : jX) : jK := i_mask [false, false, false, false] <| i_ireturn X
def pX8_wordFrom : jX → Nat → jK := fun X => jpick [(0, bX8_wordFrom_0 X), (12, bX8_wordFrom_12 X), (18, bX8_wordFrom_18 X), (30, bX8_wordFrom_30 X), (38, bX8_wordFrom_38 X), (39, bX8_wordFrom_39 X)]
def mX8_wordFrom : jMt := (yX8_wordFrom, cX8_wordFrom, 4, (some .int), pX8_wordFrom)
def bX8_numberFrom_0 (X : jX) : jK := i_mask [true, true, false, false] <| i_aload 0 <| i_getf 8 5 <| i_iload 1 <| i_isub <| i_push (.int 4) <| i_cmp_le X 12 10
def bX8_numberFrom_10 (X : jX) : jK := i_mask [false, false, false, false] <| i_push (.int 1) <| i_ireturn X
def bX8_numberFrom_12 (X : jX) : jK := i_mask [true, true, false, false] <| i_push (.int 0) <| i_istore 2 <| i_iload 1 <| i_istore 3 <| i_mask [true, false, true, true] <| i_goto X 16
def bX8_numberFrom_16 (X : jX) : jK := i_mask [true, false, true, true] <| i_iload 3 <| i_aload 0 <| i_getf 8 5 <| i_cmp_ge X 45 24
def bX8_numberFrom_24 (X : jX) : jK := i_mask [true, false, true, true] <| i_push (.int 10) <| i_iload 2 <| i_imul <| i_aload 0 <| i_getf 8 0 <| i_iload 3 <| i_iald <| i_iadd <| i_push (.int 48) <| i_isub <| i_istore 2 <| i_iinc 3 1 <| i_mask [true, false, true, true] <| i_goto X 16
def bX8_numberFrom_45 (X : jX) : jK := i_mask [false, false, true, false] <| i_push (.int 1000) <| i_iload 2 <| i_iadd <| i_ireturn X
def pX8_numberFrom : jX → Nat → jK := fun X => jpick [(0, bX8_numberFrom_0 X), (10, bX8_numberFrom_10 X), (12, bX8_numberFrom_12 X), (16, bX8_numberFrom_16 X), (24, bX8_numberFrom_24 X), (45, bX8_numberFrom_45 X)]
def mX8_numberFrom : jMt := (yX8_numberFrom, cX8_numberFrom, 4, (some .int), pX8_numberFrom)
def bX8_numberIn_0 (X : jX) : jK := i_mask [true, true, true, false, false, false] <| i_push (.int 0) <| i_istore 3 <| i_push (.int 0) <| i_istore 4 <| i_push (.int 0) <| i_istore 5 <| i_mask [true, true, true, true, true, true] <| i_goto X 8
def bX8_numberIn_8 (X : jX) : jK := i_mask [true, true, true, true, true, true] <| i_iload 5 <| i_aload 1 <| i_invT X 261 0 <| i_cmp_ge X 70 17
def bX8_numberIn_17 (X : jX) : jK := i_mask [true, true, true, true, true, true] <| i_aload 1 <| i_iload 5 <| i_invT X 262 1 <| i_push (.int 32) <| i_cmp_ne X 64 28
def bX8_numberIn_28 (X : jX) : jK := i_mask [true, true, true, true, true, true] <| i_iload 5 <| i_iload 4 <| i_isub <| i_aload 0 <| i_getf 8 5 <| i_iload 2 <| i_isub <| i_cmp_ne X 55 42
def bX8_numberIn_42 (X : jX) : jK := i_mask [true, true, true, true, true, true] <| i_aload 0 <| i_aload 1 <| i_iload 4 <| i_iload 2 <| i_invV X 91 3 8 <| i_if_eq X 55 53
def bX8_numberIn_53 (X : jX) : jK := i_mask [false, false, false, true, false, false] <| i_iload 3 <| i_ireturn X
def bX8_numberIn_55 (X : jX) : jK := i_mask [true, true, true, true, false, true] <| i_iinc 3 1 <| i_iload 5 <| i_push (.int 1) <| i_iadd <| i_istore 4 <| i_mask [true, true, true, true, true, true] <| i_goto X 64
def bX8_numberIn_64 (X : jX) : jK := i_mask [true, true, true, true, true, true] <| i_iinc 5 1 <| i_mask [true, true, true, true, true, true] <| i_goto X 8
def bX8_numberIn_70 (X : jX) : jK := i_mask [false, false, false, false, false, false] <| i_push (.int (-1)) <| i_ireturn X
def pX8_numberIn : jX → Nat → jK := fun X => jpick [(0, bX8_numberIn_0 X), (8, bX8_numberIn_8 X), (17, bX8_numberIn_17 X), (28, bX8_numberIn_28 X), (42, bX8_numberIn_42 X), (53, bX8_numberIn_53 X), (55, bX8_numberIn_55 X), (64, bX8_numberIn_64 X), (70, bX8_numberIn_70 X)]
def mX8_numberIn : jMt := (yX8_numberIn, cX8_numberIn, 6, (some .int), pX8_numberIn)
def bX8_isSpelt_0 (X : jX) : jK := i_mask [true, true, true, true, false] <| i_iload 3 <| i_istore 4 <| i_mask [true, true, true, true, true] <| i_goto X 3
def bX8_isSpelt_3 (X : jX) : jK := i_mask [true, true, true, true, true] <| i_iload 4 <| i_aload 0 <| i_getf 8 5 <| i_cmp_ge X 40 12
def bX8_isSpelt_12 (X : jX) : jK := i_mask [true, true, true, true, true] <| i_aload 0 <| i_getf 8 0 <| i_iload 4 <| i_iald <| i_aload 1 <| i_iload 2 <| i_iload 4 <| i_iadd <| i_iload 3 <| i_isub <| i_invT X 262 1 <| i_cmp_eq X 34 32
def bX8_isSpelt_32 (X : jX) : jK := i_mask [false, false, false, false, false] <| i_push (.int 0) <| i_ireturn X
def bX8_isSpelt_34 (X : jX) : jK := i_mask [true, true, true, true, true] <| i_iinc 4 1 <| i_mask [true, true, true, true, true] <| i_goto X 3
def bX8_isSpelt_40 (X : jX) : jK := i_mask [false, false, false, false, false] <| i_push (.int 1) <| i_ireturn X
def pX8_isSpelt : jX → Nat → jK := fun X => jpick [(0, bX8_isSpelt_0 X), (3, bX8_isSpelt_3 X), (12, bX8_isSpelt_12 X), (32, bX8_isSpelt_32 X), (34, bX8_isSpelt_34 X), (40, bX8_isSpelt_40 X)]
def mX8_isSpelt : jMt := (yX8_isSpelt, cX8_isSpelt, 5, (some .boolean), pX8_isSpelt)
def bX8_isLetter_0 (X : jX) : jK := i_mask [true] <| i_iload 0 <| i_push (.int 97) <| i_push (.int 122) <| i_invS X 152 3 <| i_ireturn X
def pX8_isLetter : jX → Nat → jK := fun X => jpick [(0, bX8_isLetter_0 X)]
def mX8_isLetter : jMt := (yX8_isLetter, cX8_isLetter, 1, (some .boolean), pX8_isLetter)
def bX8_isDigit_0 (X : jX) : jK := i_mask [true] <| i_iload 0 <| i_push (.int 48) <| i_push (.int 57) <| i_invS X 152 3 <| i_ireturn X
def pX8_isDigit : jX → Nat → jK := fun X => jpick [(0, bX8_isDigit_0 X)]
def mX8_isDigit : jMt := (yX8_isDigit, cX8_isDigit, 1, (some .boolean), pX8_isDigit)
def bX9_init_0 (X : jX) : jK := i_mask [true, false] <| i_aload 0 <| i_objInit <| i_aload 0 <| i_push (.int 6) <| i_newI X <| i_putR 9 0 <| i_aload 0 <| i_push (.int 6) <| i_push (.int 6) <| i_mna X <| i_putR 9 1 <| i_aload 0 <| i_push (.int 6) <| i_newI X <| i_putR 9 2 <| i_push (.int 0) <| i_istore 1 <| i_mask [true, true] <| i_goto X 34
def bX9_init_34 (X : jX) : jK := i_mask [true, true] <| i_iload 1 <| i_push (.int 6) <| i_cmp_ge X 56 40
def bX9_init_40 (X : jX) : jK := i_mask [true, true] <| i_aload 0 <| i_getf 9 1 <| i_iload 1 <| i_aald <| i_iload 1 <| i_push (.int 10) <| i_iast <| i_iinc 1 1 <| i_mask [true, true] <| i_goto X 34
def bX9_init_56 (X : jX) : jK := i_mask [false, false] <| i_return X
def pX9_init : jX → Nat → jK := fun X => jpick [(0, bX9_init_0 X), (34, bX9_init_34 X), (40, bX9_init_40 X), (56, bX9_init_56 X)]
def mX9_init : jMt := (yX9_init, cX9_init, 2, none, pX9_init)
def bX9_add_0 (X : jX) : jK := i_mask [true, true, true] <| i_aload 0 <| i_getf 9 0 <| i_aload 0 <| i_getf 9 3 <| i_iload 1 <| i_iast <| i_aload 0 <| i_getf 9 2 <| i_aload 0 <| i_getf 9 3 <| i_iload 2 <| i_iast <| i_aload 0 <| i_dup <| i_getf 9 3 <| i_push (.int 1) <| i_iadd <| i_putI 9 3 <| i_aload 0 <| i_getf 9 3 <| i_push (.int 1) <| i_isub <| i_ireturn X
def pX9_add : jX → Nat → jK := fun X => jpick [(0, bX9_add_0 X)]
def mX9_add : jMt := (yX9_add, cX9_add, 3, (some .int), pX9_add)
def bX9_has_0 (X : jX) : jK := i_mask [true, true] <| i_iload 1 <| i_push (.int 0) <| i_aload 0 <| i_getf 9 3 <| i_push (.int 1) <| i_isub <| i_invS X 152 3 <| i_ireturn X
def pX9_has : jX → Nat → jK := fun X => jpick [(0, bX9_has_0 X)]
def mX9_has : jMt := (yX9_has, cX9_has, 2, (some .boolean), pX9_has)
def bX9_weight_0 (X : jX) : jK := i_mask [true, true, true, false, false, false] <| i_aload 0 <| i_getf 9 2 <| i_iload 1 <| i_iald <| i_aload 0 <| i_getf 9 1 <| i_iload 1 <| i_aald <| i_iload 2 <| i_iald <| i_imul <| i_i2l <| i_lstore 3 <| i_push (.int 0) <| i_istore 5 <| i_mask [true, true, false, true, false, true] <| i_goto X 20
def bX9_weight_20 (X : jX) : jK := i_mask [true, true, false, true, false, true] <| i_iload 5 <| i_aload 0 <| i_getf 9 3 <| i_cmp_ge X 55 29
def bX9_weight_29 (X : jX) : jK := i_mask [true, true, false, true, false, true] <| i_iload 5 <| i_iload 1 <| i_cmp_eq X 49 35
def bX9_weight_35 (X : jX) : jK := i_mask [true, true, false, true, false, true] <| i_lload 3 <| i_push (.int 1) <| i_aload 0 <| i_iload 5 <| i_invV X 99 1 9 <| i_mmax X <| i_i2l <| i_lmul <| i_lstore 3 <| i_mask [true, true, false, true, false, true] <| i_goto X 49
def bX9_weight_49 (X : jX) : jK := i_mask [true, true, false, true, false, true] <| i_iinc 5 1 <| i_mask [true, true, false, true, false, true] <| i_goto X 20
def bX9_weight_55 (X : jX) : jK := i_mask [false, false, false, true, false, false] <| i_lload 3 <| i_lreturn X
def pX9_weight : jX → Nat → jK := fun X => jpick [(0, bX9_weight_0 X), (20, bX9_weight_20 X), (29, bX9_weight_29 X), (35, bX9_weight_35 X), (49, bX9_weight_49 X), (55, bX9_weight_55 X)]
def mX9_weight : jMt := (yX9_weight, cX9_weight, 6, (some .long), pX9_weight)
def bX9_weightOfAll_0 (X : jX) : jK := i_mask [true, true, false, false, false] <| i_push (.long 0) <| i_lstore 2 <| i_push (.int 0) <| i_istore 4 <| i_mask [true, true, true, false, true] <| i_goto X 5
def bX9_weightOfAll_5 (X : jX) : jK := i_mask [true, true, true, false, true] <| i_iload 4 <| i_aload 0 <| i_getf 9 3 <| i_cmp_ge X 30 14
def bX9_weightOfAll_14 (X : jX) : jK := i_mask [true, true, true, false, true] <| i_lload 2 <| i_aload 0 <| i_iload 4 <| i_iload 1 <| i_invV X 97 2 9 <| i_ladd <| i_lstore 2 <| i_iinc 4 1 <| i_mask [true, true, true, false, true] <| i_goto X 5
def bX9_weightOfAll_30 (X : jX) : jK := i_mask [false, false, true, false, false] <| i_lload 2 <| i_lreturn X
def pX9_weightOfAll : jX → Nat → jK := fun X => jpick [(0, bX9_weightOfAll_0 X), (5, bX9_weightOfAll_5 X), (14, bX9_weightOfAll_14 X), (30, bX9_weightOfAll_30 X)]
def mX9_weightOfAll : jMt := (yX9_weightOfAll, cX9_weightOfAll, 5, (some .long), pX9_weightOfAll)
def bX9_allTakenOf_0 (X : jX) : jK := i_mask [true, true, false, false] <| i_push (.int 0) <| i_istore 2 <| i_push (.int 0) <| i_istore 3 <| i_mask [true, true, true, true] <| i_goto X 4
def bX9_allTakenOf_4 (X : jX) : jK := i_mask [true, true, true, true] <| i_iload 3 <| i_aload 0 <| i_getf 9 3 <| i_cmp_ge X 29 12
def bX9_allTakenOf_12 (X : jX) : jK := i_mask [true, true, true, true] <| i_iload 2 <| i_aload 0 <| i_getf 9 1 <| i_iload 1 <| i_aald <| i_iload 3 <| i_iald <| i_iadd <| i_istore 2 <| i_iinc 3 1 <| i_mask [true, true, true, true] <| i_goto X 4
def bX9_allTakenOf_29 (X : jX) : jK := i_mask [false, false, true, false] <| i_iload 2 <| i_ireturn X
def pX9_allTakenOf : jX → Nat → jK := fun X => jpick [(0, bX9_allTakenOf_0 X), (4, bX9_allTakenOf_4 X), (12, bX9_allTakenOf_12 X), (29, bX9_allTakenOf_29 X)]
def mX9_allTakenOf : jMt := (yX9_allTakenOf, cX9_allTakenOf, 4, (some .int), pX9_allTakenOf)
def bX9_likeliest_0 (X : jX) : jK := i_mask [true, true, false, false, false, false, false, false] <| i_push (.int (-1)) <| i_istore 2 <| i_push (.long 0) <| i_lstore 3 <| i_push (.int 0) <| i_istore 5 <| i_mask [true, true, true, true, false, true, false, false] <| i_goto X 7
def bX9_likeliest_7 (X : jX) : jK := i_mask [true, true, true, true, false, true, false, false] <| i_iload 5 <| i_aload 0 <| i_getf 9 3 <| i_cmp_ge X 44 16
def bX9_likeliest_16 (X : jX) : jK := i_mask [true, true, true, true, false, true, false, false] <| i_aload 0 <| i_iload 5 <| i_iload 1 <| i_invV X 97 2 9 <| i_lstore 6 <| i_lload 6 <| i_lload 3 <| i_lcmp <| i_if_le X 38 32
def bX9_likeliest_32 (X : jX) : jK := i_mask [true, true, false, false, false, true, true, false] <| i_lload 6 <| i_lstore 3 <| i_iload 5 <| i_istore 2 <| i_mask [true, true, true, true, false, true, false, false] <| i_goto X 38
def bX9_likeliest_38 (X : jX) : jK := i_mask [true, true, true, true, false, true, false, false] <| i_iinc 5 1 <| i_mask [true, true, true, true, false, true, false, false] <| i_goto X 7
def bX9_likeliest_44 (X : jX) : jK := i_mask [false, false, true, false, false, false, false, false] <| i_iload 2 <| i_ireturn X
def pX9_likeliest : jX → Nat → jK := fun X => jpick [(0, bX9_likeliest_0 X), (7, bX9_likeliest_7 X), (16, bX9_likeliest_16 X), (32, bX9_likeliest_32 X), (38, bX9_likeliest_38 X), (44, bX9_likeliest_44 X)]
def mX9_likeliest : jMt := (yX9_likeliest, cX9_likeliest, 8, (some .int), pX9_likeliest)
def bX9_clearestList_0 (X : jX) : jK := i_mask [true, true, false, false, false, false] <| i_push (.int 0) <| i_istore 2 <| i_push (.int (-1)) <| i_istore 3 <| i_push (.int 0) <| i_istore 4 <| i_mask [true, true, true, true, true, false] <| i_goto X 7
def bX9_clearestList_7 (X : jX) : jK := i_mask [true, true, true, true, true, false] <| i_iload 4 <| i_push (.int 1) <| i_aload 0 <| i_getf 9 3 <| i_ishl <| i_cmp_ge X 57 18
def bX9_clearestList_18 (X : jX) : jK := i_mask [true, true, true, true, true, false] <| i_iload 4 <| i_invS X 273 1 <| i_iload 1 <| i_cmp_ne X 51 27
def bX9_clearestList_27 (X : jX) : jK := i_mask [true, true, true, true, true, false] <| i_aload 0 <| i_iload 4 <| i_invV X 102 1 9 <| i_istore 5 <| i_iload 3 <| i_if_lt X 45 39
def bX9_clearestList_39 (X : jX) : jK := i_mask [true, true, true, true, true, true] <| i_iload 5 <| i_iload 3 <| i_cmp_ge X 51 45
def bX9_clearestList_45 (X : jX) : jK := i_mask [true, true, false, false, true, true] <| i_iload 5 <| i_istore 3 <| i_iload 4 <| i_istore 2 <| i_mask [true, true, true, true, true, false] <| i_goto X 51
def bX9_clearestList_51 (X : jX) : jK := i_mask [true, true, true, true, true, false] <| i_iinc 4 1 <| i_mask [true, true, true, true, true, false] <| i_goto X 7
def bX9_clearestList_57 (X : jX) : jK := i_mask [false, false, true, false, false, false] <| i_iload 2 <| i_ireturn X
def pX9_clearestList : jX → Nat → jK := fun X => jpick [(0, bX9_clearestList_0 X), (7, bX9_clearestList_7 X), (18, bX9_clearestList_18 X), (27, bX9_clearestList_27 X), (39, bX9_clearestList_39 X), (45, bX9_clearestList_45 X), (51, bX9_clearestList_51 X), (57, bX9_clearestList_57 X)]
def mX9_clearestList : jMt := (yX9_clearestList, cX9_clearestList, 6, (some .int), pX9_clearestList)
def bX9_muddle_0 (X : jX) : jK := i_mask [true, true, false, false, false] <| i_push (.int 0) <| i_istore 2 <| i_push (.int 0) <| i_istore 3 <| i_mask [true, true, true, true, false] <| i_goto X 4
def bX9_muddle_4 (X : jX) : jK := i_mask [true, true, true, true, false] <| i_iload 3 <| i_aload 0 <| i_getf 9 3 <| i_cmp_ge X 71 12
def bX9_muddle_12 (X : jX) : jK := i_mask [true, true, true, true, false] <| i_push (.int 0) <| i_istore 4 <| i_mask [true, true, true, true, true] <| i_goto X 15
def bX9_muddle_15 (X : jX) : jK := i_mask [true, true, true, true, true] <| i_iload 4 <| i_aload 0 <| i_getf 9 3 <| i_cmp_ge X 65 24
def bX9_muddle_24 (X : jX) : jK := i_mask [true, true, true, true, true] <| i_iload 3 <| i_iload 4 <| i_cmp_eq X 59 30
def bX9_muddle_30 (X : jX) : jK := i_mask [true, true, true, true, true] <| i_iload 1 <| i_iload 3 <| i_ishr <| i_push (.int 1) <| i_iand <| i_if_eq X 59 38
def bX9_muddle_38 (X : jX) : jK := i_mask [true, true, true, true, true] <| i_iload 1 <| i_iload 4 <| i_ishr <| i_push (.int 1) <| i_iand <| i_if_eq X 59 47
def bX9_muddle_47 (X : jX) : jK := i_mask [true, true, true, true, true] <| i_iload 2 <| i_aload 0 <| i_getf 9 1 <| i_iload 3 <| i_aald <| i_iload 4 <| i_iald <| i_iadd <| i_istore 2 <| i_mask [true, true, true, true, true] <| i_goto X 59
def bX9_muddle_59 (X : jX) : jK := i_mask [true, true, true, true, true] <| i_iinc 4 1 <| i_mask [true, true, true, true, true] <| i_goto X 15
def bX9_muddle_65 (X : jX) : jK := i_mask [true, true, true, true, false] <| i_iinc 3 1 <| i_mask [true, true, true, true, false] <| i_goto X 4
def bX9_muddle_71 (X : jX) : jK := i_mask [false, false, true, false, false] <| i_iload 2 <| i_ireturn X
def pX9_muddle : jX → Nat → jK := fun X => jpick [(0, bX9_muddle_0 X), (4, bX9_muddle_4 X), (12, bX9_muddle_12 X), (15, bX9_muddle_15 X), (24, bX9_muddle_24 X), (30, bX9_muddle_30 X), (38, bX9_muddle_38 X), (47, bX9_muddle_47 X), (59, bX9_muddle_59 X), (65, bX9_muddle_65 X), (71, bX9_muddle_71 X)]
def mX9_muddle : jMt := (yX9_muddle, cX9_muddle, 5, (some .int), pX9_muddle)
def bX9_fitting_0 (X : jX) : jK := i_mask [true, true, true, false, false] <| i_push (.int 0) <| i_istore 3 <| i_push (.int 0) <| i_istore 4 <| i_mask [true, true, true, true, true] <| i_goto X 5
def bX9_fitting_5 (X : jX) : jK := i_mask [true, true, true, true, true] <| i_iload 4 <| i_aload 0 <| i_getf 9 3 <| i_cmp_ge X 42 14
def bX9_fitting_14 (X : jX) : jK := i_mask [true, true, true, true, true] <| i_aload 0 <| i_getf 9 0 <| i_iload 4 <| i_iald <| i_iload 1 <| i_iload 2 <| i_invS X 104 3 <| i_if_eq X 36 29
def bX9_fitting_29 (X : jX) : jK := i_mask [true, true, true, true, true] <| i_iload 3 <| i_push (.int 1) <| i_iload 4 <| i_ishl <| i_ior <| i_istore 3 <| i_mask [true, true, true, true, true] <| i_goto X 36
def bX9_fitting_36 (X : jX) : jK := i_mask [true, true, true, true, true] <| i_iinc 4 1 <| i_mask [true, true, true, true, true] <| i_goto X 5
def bX9_fitting_42 (X : jX) : jK := i_mask [false, false, false, true, false] <| i_iload 3 <| i_ireturn X
def pX9_fitting : jX → Nat → jK := fun X => jpick [(0, bX9_fitting_0 X), (5, bX9_fitting_5 X), (14, bX9_fitting_14 X), (29, bX9_fitting_29 X), (36, bX9_fitting_36 X), (42, bX9_fitting_42 X)]
def mX9_fitting : jMt := (yX9_fitting, cX9_fitting, 5, (some .int), pX9_fitting)
def bX9_fits_0 (X : jX) : jK := i_mask [true, true, true, false] <| i_push (.int 0) <| i_istore 3 <| i_mask [true, true, true, true] <| i_goto X 2
def bX9_fits_2 (X : jX) : jK := i_mask [true, true, true, true] <| i_iload 3 <| i_push (.int 4) <| i_cmp_ge X 36 7
def bX9_fits_7 (X : jX) : jK := i_mask [true, true, true, true] <| i_iload 2 <| i_iload 3 <| i_ishr <| i_push (.int 1) <| i_iand <| i_if_eq X 30 15
def bX9_fits_15 (X : jX) : jK := i_mask [true, true, true, true] <| i_iload 0 <| i_iload 3 <| i_invS X 105 2 <| i_iload 1 <| i_iload 3 <| i_invS X 105 2 <| i_cmp_eq X 30 28
def bX9_fits_28 (X : jX) : jK := i_mask [false, false, false, false] <| i_push (.int 0) <| i_ireturn X
def bX9_fits_30 (X : jX) : jK := i_mask [true, true, true, true] <| i_iinc 3 1 <| i_mask [true, true, true, true] <| i_goto X 2
def bX9_fits_36 (X : jX) : jK := i_mask [false, false, false, false] <| i_push (.int 1) <| i_ireturn X
def pX9_fits : jX → Nat → jK := fun X => jpick [(0, bX9_fits_0 X), (2, bX9_fits_2 X), (7, bX9_fits_7 X), (15, bX9_fits_15 X), (28, bX9_fits_28 X), (30, bX9_fits_30 X), (36, bX9_fits_36 X)]
def mX9_fits : jMt := (yX9_fits, cX9_fits, 4, (some .boolean), pX9_fits)
def bX9_figure_0 (X : jX) : jK := i_mask [true, true, false, false] <| i_iload 0 <| i_istore 2 <| i_iload 1 <| i_push (.int 1) <| i_iadd <| i_istore 3 <| i_mask [false, false, true, true] <| i_goto X 6
def bX9_figure_6 (X : jX) : jK := i_mask [false, false, true, true] <| i_iload 3 <| i_push (.int 4) <| i_cmp_ge X 22 11
def bX9_figure_11 (X : jX) : jK := i_mask [false, false, true, true] <| i_iload 2 <| i_push (.int 10) <| i_idiv <| i_istore 2 <| i_iinc 3 1 <| i_mask [false, false, true, true] <| i_goto X 6
def bX9_figure_22 (X : jX) : jK := i_mask [false, false, true, false] <| i_iload 2 <| i_push (.int 10) <| i_irem <| i_ireturn X
def pX9_figure : jX → Nat → jK := fun X => jpick [(0, bX9_figure_0 X), (6, bX9_figure_6 X), (11, bX9_figure_11 X), (22, bX9_figure_22 X)]
def mX9_figure : jMt := (yX9_figure, cX9_figure, 4, (some .int), pX9_figure)
def bX9_mostAlike_0 (X : jX) : jK := i_mask [true, true, true, false, false, false, false] <| i_push (.int 0) <| i_istore 3 <| i_push (.int 0) <| i_istore 4 <| i_mask [true, true, true, true, true, false, false] <| i_goto X 5
def bX9_mostAlike_5 (X : jX) : jK := i_mask [true, true, true, true, true, false, false] <| i_iload 4 <| i_push (.int 10) <| i_cmp_ge X 74 12
def bX9_mostAlike_12 (X : jX) : jK := i_mask [true, true, true, true, true, false, false] <| i_push (.int 0) <| i_istore 5 <| i_push (.int 0) <| i_istore 6 <| i_mask [true, true, true, true, true, true, true] <| i_goto X 18
def bX9_mostAlike_18 (X : jX) : jK := i_mask [true, true, true, true, true, true, true] <| i_iload 6 <| i_aload 0 <| i_getf 9 3 <| i_cmp_ge X 61 27
def bX9_mostAlike_27 (X : jX) : jK := i_mask [true, true, true, true, true, true, true] <| i_iload 1 <| i_iload 6 <| i_ishr <| i_push (.int 1) <| i_iand <| i_if_eq X 55 36
def bX9_mostAlike_36 (X : jX) : jK := i_mask [true, true, true, true, true, true, true] <| i_aload 0 <| i_getf 9 0 <| i_iload 6 <| i_iald <| i_iload 2 <| i_invS X 105 2 <| i_iload 4 <| i_cmp_ne X 55 52
def bX9_mostAlike_52 (X : jX) : jK := i_mask [true, true, true, true, true, true, true] <| i_iinc 5 1 <| i_mask [true, true, true, true, true, true, true] <| i_goto X 55
def bX9_mostAlike_55 (X : jX) : jK := i_mask [true, true, true, true, true, true, true] <| i_iinc 6 1 <| i_mask [true, true, true, true, true, true, true] <| i_goto X 18
def bX9_mostAlike_61 (X : jX) : jK := i_mask [true, true, true, true, true, true, false] <| i_iload 3 <| i_iload 5 <| i_mmax X <| i_istore 3 <| i_iinc 4 1 <| i_mask [true, true, true, true, true, false, false] <| i_goto X 5
def bX9_mostAlike_74 (X : jX) : jK := i_mask [false, false, false, true, false, false, false] <| i_iload 3 <| i_ireturn X
def pX9_mostAlike : jX → Nat → jK := fun X => jpick [(0, bX9_mostAlike_0 X), (5, bX9_mostAlike_5 X), (12, bX9_mostAlike_12 X), (18, bX9_mostAlike_18 X), (27, bX9_mostAlike_27 X), (36, bX9_mostAlike_36 X), (52, bX9_mostAlike_52 X), (55, bX9_mostAlike_55 X), (61, bX9_mostAlike_61 X), (74, bX9_mostAlike_74 X)]
def mX9_mostAlike : jMt := (yX9_mostAlike, cX9_mostAlike, 7, (some .int), pX9_mostAlike)
def bX10_init_0 (X : jX) : jK := i_mask [true] <| i_aload 0 <| i_objInit <| i_aload 0 <| i_new X 6 dsX6 <| i_dup <| i_invI X 54 0 <| i_putR 10 0 <| i_aload 0 <| i_new X 9 dsX9 <| i_dup <| i_invI X 94 0 <| i_putR 10 1 <| i_aload 0 <| i_new X 0 dsX0 <| i_dup <| i_invI X 0 0 <| i_putR 10 2 <| i_aload 0 <| i_new X 3 dsX3 <| i_dup <| i_invI X 24 0 <| i_putR 10 3 <| i_aload 0 <| i_new X 7 dsX7 <| i_dup <| i_invI X 80 0 <| i_putR 10 4 <| i_aload 0 <| i_new X 1 dsX1 <| i_dup <| i_invI X 15 0 <| i_putR 10 5 <| i_return X
def pX10_init : jX → Nat → jK := fun X => jpick [(0, bX10_init_0 X)]
def mX10_init : jMt := (yX10_init, cX10_init, 1, none, pX10_init)
def bX10_set_0 (X : jX) : jK := i_mask [true, true, true, false] <| i_iload 1 <| i_push (.int 0) <| i_push (.int 5) <| i_invS X 152 3 <| i_if_ne X 11 9
def bX10_set_9 (X : jX) : jK := i_mask [false, false, false, false] <| i_push (.int (-1)) <| i_ireturn X
def bX10_set_11 (X : jX) : jK := i_mask [true, true, true, false] <| i_iload 2 <| i_push (.ref 5) <| i_iload 1 <| i_iald <| i_push (.ref 6) <| i_iload 1 <| i_iald <| i_invS X 152 3 <| i_if_ne X 31 28
def bX10_set_28 (X : jX) : jK := i_mask [false, false, false, false] <| i_push (.int (-2)) <| i_ireturn X
def bX10_set_31 (X : jX) : jK := i_mask [true, true, true, false] <| i_aload 0 <| i_getf 10 0 <| i_getf 6 0 <| i_getf 4 0 <| i_iload 1 <| i_iald <| i_istore 3 <| i_aload 0 <| i_getf 10 0 <| i_getf 6 0 <| i_getf 4 0 <| i_iload 1 <| i_iload 2 <| i_iast <| i_iload 3 <| i_ireturn X
def pX10_set : jX → Nat → jK := fun X => jpick [(0, bX10_set_0 X), (9, bX10_set_9 X), (11, bX10_set_11 X), (28, bX10_set_28 X), (31, bX10_set_31 X)]
def mX10_set : jMt := (yX10_set, cX10_set, 4, (some .int), pX10_set)
def bX10_want_0 (X : jX) : jK := i_mask [true, true, true, false] <| i_iload 1 <| i_push (.int 0) <| i_push (.int 5) <| i_invS X 152 3 <| i_if_ne X 11 9
def bX10_want_9 (X : jX) : jK := i_mask [false, false, false, false] <| i_push (.int (-1)) <| i_ireturn X
def bX10_want_11 (X : jX) : jK := i_mask [true, true, true, false] <| i_iload 2 <| i_push (.int 0) <| i_push (.int 99) <| i_invS X 152 3 <| i_if_ne X 24 21
def bX10_want_21 (X : jX) : jK := i_mask [false, false, false, false] <| i_push (.int (-2)) <| i_ireturn X
def bX10_want_24 (X : jX) : jK := i_mask [true, true, true, false] <| i_aload 0 <| i_getf 10 0 <| i_getf 6 0 <| i_getf 4 1 <| i_iload 1 <| i_iald <| i_istore 3 <| i_aload 0 <| i_getf 10 0 <| i_getf 6 0 <| i_getf 4 1 <| i_iload 1 <| i_iload 2 <| i_iast <| i_iload 3 <| i_ireturn X
def pX10_want : jX → Nat → jK := fun X => jpick [(0, bX10_want_0 X), (9, bX10_want_9 X), (11, bX10_want_11 X), (21, bX10_want_21 X), (24, bX10_want_24 X)]
def mX10_want : jMt := (yX10_want, cX10_want, 4, (some .int), pX10_want)
def bX10_count_0 (X : jX) : jK := i_mask [true, true] <| i_iload 1 <| i_push (.int 0) <| i_push (.int 5) <| i_invS X 152 3 <| i_if_eq X 22 9
def bX10_count_9 (X : jX) : jK := i_mask [true, true] <| i_aload 0 <| i_getf 10 0 <| i_getf 6 0 <| i_getf 4 0 <| i_iload 1 <| i_iald <| i_ireturn X
def bX10_count_22 (X : jX) : jK := i_mask [true, true] <| i_iload 1 <| i_sw X [(6, 64), (7, 72), (8, 80), (9, 88), (10, 96), (11, 107), (12, 118)] 135
def bX10_count_64 (X : jX) : jK := i_mask [true, false] <| i_aload 0 <| i_getf 10 0 <| i_getf 6 5 <| i_ireturn X
def bX10_count_72 (X : jX) : jK := i_mask [true, false] <| i_aload 0 <| i_getf 10 1 <| i_getf 9 3 <| i_ireturn X
def bX10_count_80 (X : jX) : jK := i_mask [true, false] <| i_aload 0 <| i_getf 10 2 <| i_getf 0 4 <| i_ireturn X
def bX10_count_88 (X : jX) : jK := i_mask [true, false] <| i_aload 0 <| i_getf 10 3 <| i_getf 3 3 <| i_ireturn X
def bX10_count_96 (X : jX) : jK := i_mask [true, false] <| i_aload 0 <| i_getf 10 0 <| i_getf 6 1 <| i_getf 2 2 <| i_ireturn X
def bX10_count_107 (X : jX) : jK := i_mask [true, false] <| i_aload 0 <| i_getf 10 0 <| i_getf 6 0 <| i_getf 4 2 <| i_ireturn X
def bX10_count_118 (X : jX) : jK := i_mask [true, false] <| i_aload 0 <| i_getf 10 0 <| i_getf 6 1 <| i_getf 2 0 <| i_getf 5 0 <| i_getf 8 1 <| i_ireturn X
def bX10_count_135 (X : jX) : jK := i_mask [false, false] <| i_push (.int (-2)) <| i_ireturn X
def pX10_count : jX → Nat → jK := fun X => jpick [(0, bX10_count_0 X), (9, bX10_count_9 X), (22, bX10_count_22 X), (64, bX10_count_64 X), (72, bX10_count_72 X), (80, bX10_count_80 X), (88, bX10_count_88 X), (96, bX10_count_96 X), (107, bX10_count_107 X), (118, bX10_count_118 X), (135, bX10_count_135 X)]
def mX10_count : jMt := (yX10_count, cX10_count, 2, (some .int), pX10_count)
def bX10_pass_0 (X : jX) : jK := i_mask [true, true] <| i_aload 0 <| i_getf 10 0 <| i_getf 6 0 <| i_iload 1 <| i_invV X 37 1 4 <| i_if_eq X 38 14
def bX10_pass_14 (X : jX) : jK := i_mask [true, true] <| i_aload 0 <| i_getf 10 0 <| i_getf 6 0 <| i_aload 0 <| i_getf 10 0 <| i_getf 6 0 <| i_invV X 33 0 4 <| i_iload 1 <| i_invV X 39 2 4 <| i_mask [false, false] <| i_goto X 40
def bX10_pass_38 (X : jX) : jK := i_mask [false, false] <| i_push (.int (-2)) <| i_mask [false, false] <| i_goto X 40
def bX10_pass_40 (X : jX) : jK := i_mask [false, false] <| i_ireturn X
def pX10_pass : jX → Nat → jK := fun X => jpick [(0, bX10_pass_0 X), (14, bX10_pass_14 X), (38, bX10_pass_38 X), (40, bX10_pass_40 X)]
def mX10_pass : jMt := (yX10_pass, cX10_pass, 2, (some .int), pX10_pass)
def bX10_feed_0 (X : jX) : jK := i_mask [true, true, false, true, false, false] <| i_iload 3 <| i_push (.int 1) <| i_push (.int 8) <| i_invS X 152 3 <| i_if_ne X 13 10
def bX10_feed_10 (X : jX) : jK := i_mask [false, false, false, false, false, false] <| i_push (.int (-2)) <| i_ireturn X
def bX10_feed_13 (X : jX) : jK := i_mask [true, true, false, true, false, false] <| i_aload 0 <| i_getf 10 0 <| i_getf 6 1 <| i_getf 2 0 <| i_getf 5 0 <| i_astore 4 <| i_aload 4 <| i_getf 8 1 <| i_iload 3 <| i_iadd <| i_push (.int 160) <| i_cmp_le X 44 41
def bX10_feed_41 (X : jX) : jK := i_mask [false, false, false, false, false, false] <| i_push (.int (-4)) <| i_ireturn X
def bX10_feed_44 (X : jX) : jK := i_mask [false, true, false, true, true, false] <| i_iload 3 <| i_push (.int 1) <| i_isub <| i_istore 5 <| i_mask [false, true, false, false, true, true] <| i_goto X 49
def bX10_feed_49 (X : jX) : jK := i_mask [false, true, false, false, true, true] <| i_iload 5 <| i_if_lt X 77 54
def bX10_feed_54 (X : jX) : jK := i_mask [false, true, false, false, true, true] <| i_aload 4 <| i_lload 1 <| i_push (.int 8) <| i_iload 5 <| i_imul <| i_lushr <| i_l2i <| i_push (.int 255) <| i_iand <| i_invV X 85 1 8 <| i_iinc 5 (-1) <| i_mask [false, true, false, false, true, true] <| i_goto X 49
def bX10_feed_77 (X : jX) : jK := i_mask [false, false, false, false, true, false] <| i_aload 4 <| i_getf 8 1 <| i_ireturn X
def pX10_feed : jX → Nat → jK := fun X => jpick [(0, bX10_feed_0 X), (10, bX10_feed_10 X), (13, bX10_feed_13 X), (41, bX10_feed_41 X), (44, bX10_feed_44 X), (49, bX10_feed_49 X), (54, bX10_feed_54 X), (77, bX10_feed_77 X)]
def mX10_feed : jMt := (yX10_feed, cX10_feed, 6, (some .int), pX10_feed)
def bX10_text_0 (X : jX) : jK := i_mask [true, false, false] <| i_aload 0 <| i_getf 10 0 <| i_getf 6 1 <| i_astore 1 <| i_aload 1 <| i_getf 2 2 <| i_push (.int 6) <| i_cmp_lt X 20 17
def bX10_text_17 (X : jX) : jK := i_mask [false, false, false] <| i_push (.int (-4)) <| i_ireturn X
def bX10_text_20 (X : jX) : jK := i_mask [false, true, false] <| i_aload 1 <| i_getf 2 0 <| i_invV X 42 0 5 <| i_istore 2 <| i_iload 2 <| i_if_ge X 39 32
def bX10_text_32 (X : jX) : jK := i_mask [false, true, false] <| i_aload 1 <| i_invV X 20 0 2 <| i_mask [false, false, false] <| i_goto X 43
def bX10_text_39 (X : jX) : jK := i_mask [false, false, true] <| i_push (.int (-100)) <| i_iload 2 <| i_isub <| i_mask [false, false, false] <| i_goto X 43
def bX10_text_43 (X : jX) : jK := i_mask [false, false, false] <| i_ireturn X
def pX10_text : jX → Nat → jK := fun X => jpick [(0, bX10_text_0 X), (17, bX10_text_17 X), (20, bX10_text_20 X), (32, bX10_text_32 X), (39, bX10_text_39 X), (43, bX10_text_43 X)]
def mX10_text : jMt := (yX10_text, cX10_text, 3, (some .int), pX10_text)
def bX10_force_0 (X : jX) : jK := i_mask [true, true, false] <| i_iload 1 <| i_push (.int 0) <| i_aload 0 <| i_getf 10 0 <| i_getf 6 1 <| i_getf 2 2 <| i_push (.int 1) <| i_isub <| i_invS X 152 3 <| i_if_ne X 23 20
def bX10_force_20 (X : jX) : jK := i_mask [false, false, false] <| i_push (.int (-2)) <| i_ireturn X
def bX10_force_23 (X : jX) : jK := i_mask [true, true, false] <| i_aload 0 <| i_getf 10 0 <| i_getf 6 0 <| i_getf 4 2 <| i_istore 2 <| i_aload 0 <| i_getf 10 0 <| i_getf 6 0 <| i_iload 1 <| i_putI 4 2 <| i_iload 2 <| i_ireturn X
def pX10_force : jX → Nat → jK := fun X => jpick [(0, bX10_force_0 X), (20, bX10_force_20 X), (23, bX10_force_23 X)]
def mX10_force : jMt := (yX10_force, cX10_force, 3, (some .int), pX10_force)
def bX10_asks_0 (X : jX) : jK := i_mask [true, true, true, true] <| i_iload 1 <| i_push (.int 0) <| i_push (.int 2) <| i_invS X 152 3 <| i_if_eq X 32 9
def bX10_asks_9 (X : jX) : jK := i_mask [true, true, true, true] <| i_aload 0 <| i_getf 10 0 <| i_getf 6 0 <| i_iload 2 <| i_invV X 37 1 4 <| i_if_eq X 32 23
def bX10_asks_23 (X : jX) : jK := i_mask [true, true, true, true] <| i_iload 3 <| i_push (.int 0) <| i_push (.int 5) <| i_invS X 152 3 <| i_if_ne X 35 32
def bX10_asks_32 (X : jX) : jK := i_mask [false, false, false, false] <| i_push (.int (-2)) <| i_ireturn X
def bX10_asks_35 (X : jX) : jK := i_mask [true, true, true, true] <| i_aload 0 <| i_getf 10 0 <| i_aload 0 <| i_getf 10 0 <| i_getf 6 0 <| i_invV X 33 0 4 <| i_invV X 58 1 6 <| i_aload 0 <| i_getf 10 0 <| i_iload 1 <| i_iload 2 <| i_iload 3 <| i_invV X 59 3 6 <| i_ireturn X
def pX10_asks : jX → Nat → jK := fun X => jpick [(0, bX10_asks_0 X), (9, bX10_asks_9 X), (23, bX10_asks_23 X), (32, bX10_asks_32 X), (35, bX10_asks_35 X)]
def mX10_asks : jMt := (yX10_asks, cX10_asks, 4, (some .int), pX10_asks)
def bX10_say_0 (X : jX) : jK := i_mask [true, true, true, true] <| i_iload 1 <| i_push (.int 0) <| i_push (.int 5) <| i_invS X 152 3 <| i_if_eq X 28 9
def bX10_say_9 (X : jX) : jK := i_mask [true, true, true, true] <| i_iload 2 <| i_push (.int 0) <| i_push (.int 5) <| i_invS X 152 3 <| i_if_eq X 28 18
def bX10_say_18 (X : jX) : jK := i_mask [true, true, true, true] <| i_iload 3 <| i_push (.int 0) <| i_push (.int 9) <| i_invS X 152 3 <| i_if_ne X 31 28
def bX10_say_28 (X : jX) : jK := i_mask [false, false, false, false] <| i_push (.int (-2)) <| i_ireturn X
def bX10_say_31 (X : jX) : jK := i_mask [true, true, true, true] <| i_aload 0 <| i_getf 10 0 <| i_getf 6 5 <| i_push (.int 8) <| i_cmp_lt X 48 43
def bX10_say_43 (X : jX) : jK := i_mask [false, false, false, false] <| i_push (.int (-4)) <| i_mask [false, false, false, false] <| i_goto X 58
def bX10_say_48 (X : jX) : jK := i_mask [true, true, true, true] <| i_aload 0 <| i_getf 10 0 <| i_iload 1 <| i_iload 2 <| i_iload 3 <| i_invV X 55 3 6 <| i_mask [false, false, false, false] <| i_goto X 58
def bX10_say_58 (X : jX) : jK := i_mask [false, false, false, false] <| i_ireturn X
def pX10_say : jX → Nat → jK := fun X => jpick [(0, bX10_say_0 X), (9, bX10_say_9 X), (18, bX10_say_18 X), (28, bX10_say_28 X), (31, bX10_say_31 X), (43, bX10_say_43 X), (48, bX10_say_48 X), (58, bX10_say_58 X)]
def mX10_say : jMt := (yX10_say, cX10_say, 4, (some .int), pX10_say)
def bX10_told_0 (X : jX) : jK := i_mask [true, true, true, true] <| i_iload 1 <| i_push (.int 0) <| i_aload 0 <| i_getf 10 0 <| i_getf 6 5 <| i_push (.int 1) <| i_isub <| i_invS X 152 3 <| i_if_ne X 20 17
def bX10_told_17 (X : jX) : jK := i_mask [false, false, false, false] <| i_push (.int (-5)) <| i_ireturn X
def bX10_told_20 (X : jX) : jK := i_mask [true, true, true, true] <| i_aload 0 <| i_getf 10 0 <| i_getf 6 0 <| i_iload 2 <| i_invV X 37 1 4 <| i_if_ne X 37 34
def bX10_told_34 (X : jX) : jK := i_mask [false, false, false, false] <| i_push (.int (-7)) <| i_ireturn X
def bX10_told_37 (X : jX) : jK := i_mask [true, true, true, true] <| i_aload 0 <| i_getf 10 0 <| i_aload 0 <| i_getf 10 0 <| i_getf 6 0 <| i_invV X 33 0 4 <| i_invV X 58 1 6 <| i_iload 3 <| i_sw X [(0, 92), (1, 102), (2, 112), (3, 122), (4, 140), (5, 158)] 175
def bX10_told_92 (X : jX) : jK := i_mask [true, true, false, false] <| i_aload 0 <| i_getf 10 0 <| i_getf 6 2 <| i_iload 1 <| i_iald <| i_ireturn X
def bX10_told_102 (X : jX) : jK := i_mask [true, true, false, false] <| i_aload 0 <| i_getf 10 0 <| i_getf 6 3 <| i_iload 1 <| i_iald <| i_ireturn X
def bX10_told_112 (X : jX) : jK := i_mask [true, true, false, false] <| i_aload 0 <| i_getf 10 0 <| i_getf 6 4 <| i_iload 1 <| i_iald <| i_ireturn X
def bX10_told_122 (X : jX) : jK := i_mask [true, true, true, false] <| i_aload 0 <| i_getf 10 0 <| i_getf 6 12 <| i_aload 0 <| i_getf 10 0 <| i_iload 1 <| i_iload 2 <| i_invV X 60 2 6 <| i_iald <| i_ireturn X
def bX10_told_140 (X : jX) : jK := i_mask [true, true, true, false] <| i_aload 0 <| i_getf 10 0 <| i_getf 6 13 <| i_aload 0 <| i_getf 10 0 <| i_iload 1 <| i_iload 2 <| i_invV X 60 2 6 <| i_iald <| i_ireturn X
def bX10_told_158 (X : jX) : jK := i_mask [true, true, false, false] <| i_aload 0 <| i_getf 10 0 <| i_iload 1 <| i_invV X 57 1 6 <| i_if_eq X 173 169
def bX10_told_169 (X : jX) : jK := i_mask [false, false, false, false] <| i_push (.int 1) <| i_mask [false, false, false, false] <| i_goto X 174
def bX10_told_173 (X : jX) : jK := i_mask [false, false, false, false] <| i_push (.int 0) <| i_mask [false, false, false, false] <| i_goto X 174
def bX10_told_174 (X : jX) : jK := i_mask [false, false, false, false] <| i_ireturn X
def bX10_told_175 (X : jX) : jK := i_mask [false, false, false, false] <| i_push (.int (-7)) <| i_ireturn X
def pX10_told : jX → Nat → jK := fun X => jpick [(0, bX10_told_0 X), (17, bX10_told_17 X), (20, bX10_told_20 X), (34, bX10_told_34 X), (37, bX10_told_37 X), (92, bX10_told_92 X), (102, bX10_told_102 X), (112, bX10_told_112 X), (122, bX10_told_122 X), (140, bX10_told_140 X), (158, bX10_told_158 X), (169, bX10_told_169 X), (173, bX10_told_173 X), (174, bX10_told_174 X), (175, bX10_told_175 X)]
def mX10_told : jMt := (yX10_told, cX10_told, 4, (some .int), pX10_told)
def bX10_run_0 (X : jX) : jK := i_mask [true, true, false, false] <| i_iload 1 <| i_push (.int 0) <| i_push (.int 7) <| i_invS X 152 3 <| i_if_ne X 14 10
def bX10_run_10 (X : jX) : jK := i_mask [false, false, false, false] <| i_push (.long (-4611686018427387904)) <| i_lreturn X
def bX10_run_14 (X : jX) : jK := i_mask [true, true, false, false] <| i_aload 0 <| i_getf 10 0 <| i_aload 0 <| i_getf 10 0 <| i_getf 6 0 <| i_invV X 33 0 4 <| i_invV X 66 1 6 <| i_lstore 2 <| i_iload 1 <| i_if_ne X 38 36
def bX10_run_36 (X : jX) : jK := i_mask [false, false, true, false] <| i_lload 2 <| i_lreturn X
def bX10_run_38 (X : jX) : jK := i_mask [true, true, false, false] <| i_iload 1 <| i_push (.int 1) <| i_cmp_ne X 54 43
def bX10_run_43 (X : jX) : jK := i_mask [true, false, false, false] <| i_aload 0 <| i_getf 10 0 <| i_getf 6 9 <| i_i2l <| i_mask [false, false, false, false] <| i_goto X 69
def bX10_run_54 (X : jX) : jK := i_mask [true, true, false, false] <| i_push (.int 1000000) <| i_aload 0 <| i_getf 10 0 <| i_getf 6 8 <| i_iload 1 <| i_push (.int 2) <| i_isub <| i_iald <| i_isub <| i_i2l <| i_mask [false, false, false, false] <| i_goto X 69
def bX10_run_69 (X : jX) : jK := i_mask [false, false, false, false] <| i_lreturn X
def pX10_run : jX → Nat → jK := fun X => jpick [(0, bX10_run_0 X), (10, bX10_run_10 X), (14, bX10_run_14 X), (36, bX10_run_36 X), (38, bX10_run_38 X), (43, bX10_run_43 X), (54, bX10_run_54 X), (69, bX10_run_69 X)]
def mX10_run : jMt := (yX10_run, cX10_run, 4, (some .long), pX10_run)
def bX10_minute_0 (X : jX) : jK := i_mask [true, true, true] <| i_iload 1 <| i_push (.int 0) <| i_aload 0 <| i_getf 10 0 <| i_getf 6 5 <| i_push (.int 1) <| i_isub <| i_invS X 152 3 <| i_if_ne X 20 17
def bX10_minute_17 (X : jX) : jK := i_mask [false, false, false] <| i_push (.int (-5)) <| i_ireturn X
def bX10_minute_20 (X : jX) : jK := i_mask [true, true, true] <| i_iload 2 <| i_push (.int 0) <| i_push (.int 1) <| i_invS X 152 3 <| i_if_ne X 32 29
def bX10_minute_29 (X : jX) : jK := i_mask [false, false, false] <| i_push (.int (-7)) <| i_ireturn X
def bX10_minute_32 (X : jX) : jK := i_mask [true, true, true] <| i_aload 0 <| i_getf 10 0 <| i_aload 0 <| i_getf 10 0 <| i_getf 6 0 <| i_invV X 33 0 4 <| i_invV X 66 1 6 <| i_pop2 <| i_iload 2 <| i_if_ne X 66 54
def bX10_minute_54 (X : jX) : jK := i_mask [true, true, false] <| i_aload 0 <| i_getf 10 0 <| i_getf 6 6 <| i_iload 1 <| i_iald <| i_mask [false, false, false] <| i_goto X 75
def bX10_minute_66 (X : jX) : jK := i_mask [true, true, false] <| i_aload 0 <| i_getf 10 0 <| i_getf 6 7 <| i_iload 1 <| i_iald <| i_mask [false, false, false] <| i_goto X 75
def bX10_minute_75 (X : jX) : jK := i_mask [false, false, false] <| i_ireturn X
def pX10_minute : jX → Nat → jK := fun X => jpick [(0, bX10_minute_0 X), (17, bX10_minute_17 X), (20, bX10_minute_20 X), (29, bX10_minute_29 X), (32, bX10_minute_32 X), (54, bX10_minute_54 X), (66, bX10_minute_66 X), (75, bX10_minute_75 X)]
def mX10_minute : jMt := (yX10_minute, cX10_minute, 3, (some .int), pX10_minute)
def bX10_judge_0 (X : jX) : jK := i_mask [true, true] <| i_iload 1 <| i_push (.int 0) <| i_push (.int 3) <| i_invS X 152 3 <| i_if_eq X 22 9
def bX10_judge_9 (X : jX) : jK := i_mask [true, true] <| i_aload 0 <| i_getf 10 4 <| i_getf 7 1 <| i_iload 1 <| i_iald <| i_push (.int (-1)) <| i_cmp_ne X 26 22
def bX10_judge_22 (X : jX) : jK := i_mask [false, false] <| i_push (.long (-4611686018427387904)) <| i_lreturn X
def bX10_judge_26 (X : jX) : jK := i_mask [true, true] <| i_aload 0 <| i_getf 10 0 <| i_aload 0 <| i_getf 10 4 <| i_getf 7 0 <| i_iload 1 <| i_aald <| i_aload 0 <| i_getf 10 4 <| i_getf 7 2 <| i_iload 1 <| i_iald <| i_invV X 69 2 6 <| i_lreturn X
def pX10_judge : jX → Nat → jK := fun X => jpick [(0, bX10_judge_0 X), (9, bX10_judge_9 X), (22, bX10_judge_22 X), (26, bX10_judge_26 X)]
def mX10_judge : jMt := (yX10_judge, cX10_judge, 2, (some .long), pX10_judge)
def bX10_best_0 (X : jX) : jK := i_mask [true, true, false, false, false, false] <| i_iload 1 <| i_push (.int 0) <| i_push (.int 2) <| i_invS X 152 3 <| i_if_ne X 13 9
def bX10_best_9 (X : jX) : jK := i_mask [false, false, false, false, false, false] <| i_push (.long (-4611686018427387904)) <| i_lreturn X
def bX10_best_13 (X : jX) : jK := i_mask [true, true, false, false, false, false] <| i_aload 0 <| i_getf 10 0 <| i_aload 0 <| i_getf 10 0 <| i_getf 6 0 <| i_invV X 33 0 4 <| i_invV X 66 1 6 <| i_lstore 2 <| i_aload 0 <| i_getf 10 0 <| i_getf 6 5 <| i_push (.int 5) <| i_cmp_gt X 52 42
def bX10_best_42 (X : jX) : jK := i_mask [true, true, true, false, false, false] <| i_aload 0 <| i_getf 10 0 <| i_invV X 73 0 6 <| i_mask [true, true, true, false, false, false] <| i_goto X 59
def bX10_best_52 (X : jX) : jK := i_mask [true, true, true, false, false, false] <| i_aload 0 <| i_getf 10 0 <| i_invV X 76 0 6 <| i_mask [true, true, true, false, false, false] <| i_goto X 59
def bX10_best_59 (X : jX) : jK := i_mask [true, true, true, false, false, false] <| i_lstore 4 <| i_iload 1 <| i_if_ne X 73 65
def bX10_best_65 (X : jX) : jK := i_mask [true, false, false, false, false, false] <| i_aload 0 <| i_getf 10 0 <| i_invV X 72 0 6 <| i_lreturn X
def bX10_best_73 (X : jX) : jK := i_mask [false, true, true, false, true, false] <| i_iload 1 <| i_push (.int 1) <| i_cmp_ne X 83 78
def bX10_best_78 (X : jX) : jK := i_mask [false, false, false, false, true, false] <| i_lload 4 <| i_mask [false, false, false, false, false, false] <| i_goto X 87
def bX10_best_83 (X : jX) : jK := i_mask [false, false, true, false, true, false] <| i_lload 4 <| i_lload 2 <| i_lsub <| i_mask [false, false, false, false, false, false] <| i_goto X 87
def bX10_best_87 (X : jX) : jK := i_mask [false, false, false, false, false, false] <| i_lreturn X
def pX10_best : jX → Nat → jK := fun X => jpick [(0, bX10_best_0 X), (9, bX10_best_9 X), (13, bX10_best_13 X), (42, bX10_best_42 X), (52, bX10_best_52 X), (59, bX10_best_59 X), (65, bX10_best_65 X), (73, bX10_best_73 X), (78, bX10_best_78 X), (83, bX10_best_83 X), (87, bX10_best_87 X)]
def mX10_best : jMt := (yX10_best, cX10_best, 6, (some .long), pX10_best)
def bX10_side_0 (X : jX) : jK := i_mask [true, false, false, false, false, false, false] <| i_push (.int 0) <| i_istore 1 <| i_push (.long (-1)) <| i_lstore 2 <| i_push (.ref 5) <| i_push (.int 0) <| i_iald <| i_istore 4 <| i_mask [true, true, true, false, true, false, false] <| i_goto X 13
def bX10_side_13 (X : jX) : jK := i_mask [true, true, true, false, true, false, false] <| i_iload 4 <| i_push (.ref 6) <| i_push (.int 0) <| i_iald <| i_cmp_gt X 53 23
def bX10_side_23 (X : jX) : jK := i_mask [true, true, true, false, true, false, false] <| i_aload 0 <| i_getf 10 0 <| i_iload 4 <| i_invV X 66 1 6 <| i_lstore 5 <| i_lload 5 <| i_lload 2 <| i_lcmp <| i_if_le X 47 41
def bX10_side_41 (X : jX) : jK := i_mask [true, false, false, false, true, true, false] <| i_lload 5 <| i_lstore 2 <| i_iload 4 <| i_istore 1 <| i_mask [true, true, true, false, true, false, false] <| i_goto X 47
def bX10_side_47 (X : jX) : jK := i_mask [true, true, true, false, true, false, false] <| i_iinc 4 1 <| i_mask [true, true, true, false, true, false, false] <| i_goto X 13
def bX10_side_53 (X : jX) : jK := i_mask [false, true, false, false, false, false, false] <| i_iload 1 <| i_ireturn X
def pX10_side : jX → Nat → jK := fun X => jpick [(0, bX10_side_0 X), (13, bX10_side_13 X), (23, bX10_side_23 X), (41, bX10_side_41 X), (47, bX10_side_47 X), (53, bX10_side_53 X)]
def mX10_side : jMt := (yX10_side, cX10_side, 7, (some .int), pX10_side)
def bX10_leave_0 (X : jX) : jK := i_mask [true, false, false, false, false, false, false, false, false] <| i_aload 0 <| i_getf 10 0 <| i_aload 0 <| i_getf 10 0 <| i_getf 6 0 <| i_invV X 33 0 4 <| i_invV X 66 1 6 <| i_lstore 1 <| i_push (.int (-1)) <| i_istore 3 <| i_push (.long (-1)) <| i_lstore 4 <| i_push (.int 0) <| i_istore 6 <| i_mask [true, true, false, true, true, false, true, false, false] <| i_goto X 28
def bX10_leave_28 (X : jX) : jK := i_mask [true, true, false, true, true, false, true, false, false] <| i_iload 6 <| i_aload 0 <| i_getf 10 0 <| i_getf 6 5 <| i_cmp_ge X 72 40
def bX10_leave_40 (X : jX) : jK := i_mask [true, true, false, true, true, false, true, false, false] <| i_aload 0 <| i_getf 10 0 <| i_iload 6 <| i_invV X 67 1 6 <| i_lstore 7 <| i_lload 7 <| i_lload 4 <| i_lcmp <| i_if_le X 66 59
def bX10_leave_59 (X : jX) : jK := i_mask [true, true, false, false, false, false, true, true, false] <| i_lload 7 <| i_lstore 4 <| i_iload 6 <| i_istore 3 <| i_mask [true, true, false, true, true, false, true, false, false] <| i_goto X 66
def bX10_leave_66 (X : jX) : jK := i_mask [true, true, false, true, true, false, true, false, false] <| i_iinc 6 1 <| i_mask [true, true, false, true, true, false, true, false, false] <| i_goto X 28
def bX10_leave_72 (X : jX) : jK := i_mask [false, true, false, true, true, false, false, false, false] <| i_lload 4 <| i_lload 1 <| i_lcmp <| i_if_lt X 83 79
def bX10_leave_79 (X : jX) : jK := i_mask [false, false, false, true, false, false, false, false, false] <| i_iload 3 <| i_mask [false, false, false, false, false, false, false, false, false] <| i_goto X 84
def bX10_leave_83 (X : jX) : jK := i_mask [false, false, false, false, false, false, false, false, false] <| i_push (.int (-1)) <| i_mask [false, false, false, false, false, false, false, false, false] <| i_goto X 84
def bX10_leave_84 (X : jX) : jK := i_mask [false, false, false, false, false, false, false, false, false] <| i_ireturn X
def pX10_leave : jX → Nat → jK := fun X => jpick [(0, bX10_leave_0 X), (28, bX10_leave_28 X), (40, bX10_leave_40 X), (59, bX10_leave_59 X), (66, bX10_leave_66 X), (72, bX10_leave_72 X), (79, bX10_leave_79 X), (83, bX10_leave_83 X), (84, bX10_leave_84 X)]
def mX10_leave : jMt := (yX10_leave, cX10_leave, 9, (some .int), pX10_leave)
def bX10_word_0 (X : jX) : jK := i_mask [true, true, true] <| i_iload 1 <| i_push (.int 0) <| i_push (.int 9999) <| i_invS X 152 3 <| i_if_eq X 21 11
def bX10_word_11 (X : jX) : jK := i_mask [true, true, true] <| i_iload 2 <| i_push (.int 0) <| i_push (.int 99) <| i_invS X 152 3 <| i_if_ne X 24 21
def bX10_word_21 (X : jX) : jK := i_mask [false, false, false] <| i_push (.int (-2)) <| i_ireturn X
def bX10_word_24 (X : jX) : jK := i_mask [true, true, true] <| i_aload 0 <| i_getf 10 1 <| i_getf 9 3 <| i_push (.int 6) <| i_cmp_lt X 41 36
def bX10_word_36 (X : jX) : jK := i_mask [false, false, false] <| i_push (.int (-4)) <| i_mask [false, false, false] <| i_goto X 50
def bX10_word_41 (X : jX) : jK := i_mask [true, true, true] <| i_aload 0 <| i_getf 10 1 <| i_iload 1 <| i_iload 2 <| i_invV X 95 2 9 <| i_mask [false, false, false] <| i_goto X 50
def bX10_word_50 (X : jX) : jK := i_mask [false, false, false] <| i_ireturn X
def pX10_word : jX → Nat → jK := fun X => jpick [(0, bX10_word_0 X), (11, bX10_word_11 X), (21, bX10_word_21 X), (24, bX10_word_24 X), (36, bX10_word_36 X), (41, bX10_word_41 X), (50, bX10_word_50 X)]
def mX10_word : jMt := (yX10_word, cX10_word, 3, (some .int), pX10_word)
def bX10_mistake_0 (X : jX) : jK := i_mask [true, true, true, true, false] <| i_aload 0 <| i_getf 10 1 <| i_iload 1 <| i_invV X 96 1 9 <| i_if_eq X 22 11
def bX10_mistake_11 (X : jX) : jK := i_mask [true, true, true, true, false] <| i_aload 0 <| i_getf 10 1 <| i_iload 2 <| i_invV X 96 1 9 <| i_if_ne X 24 22
def bX10_mistake_22 (X : jX) : jK := i_mask [false, false, false, false, false] <| i_push (.int (-1)) <| i_ireturn X
def bX10_mistake_24 (X : jX) : jK := i_mask [true, true, true, true, false] <| i_iload 3 <| i_push (.int 0) <| i_push (.int 99) <| i_invS X 152 3 <| i_if_ne X 37 34
def bX10_mistake_34 (X : jX) : jK := i_mask [false, false, false, false, false] <| i_push (.int (-2)) <| i_ireturn X
def bX10_mistake_37 (X : jX) : jK := i_mask [true, true, true, true, false] <| i_aload 0 <| i_getf 10 1 <| i_getf 9 1 <| i_iload 1 <| i_aald <| i_iload 2 <| i_iald <| i_istore 4 <| i_aload 0 <| i_getf 10 1 <| i_getf 9 1 <| i_iload 1 <| i_aald <| i_iload 2 <| i_iload 3 <| i_iast <| i_iload 4 <| i_ireturn X
def pX10_mistake : jX → Nat → jK := fun X => jpick [(0, bX10_mistake_0 X), (11, bX10_mistake_11 X), (22, bX10_mistake_22 X), (24, bX10_mistake_24 X), (34, bX10_mistake_34 X), (37, bX10_mistake_37 X)]
def mX10_mistake : jMt := (yX10_mistake, cX10_mistake, 5, (some .int), pX10_mistake)
def bX10_odds_0 (X : jX) : jK := i_mask [true, true, true, true] <| i_aload 0 <| i_getf 10 1 <| i_iload 1 <| i_invV X 96 1 9 <| i_if_eq X 31 11
def bX10_odds_11 (X : jX) : jK := i_mask [true, true, true, true] <| i_aload 0 <| i_getf 10 1 <| i_iload 2 <| i_invV X 96 1 9 <| i_if_eq X 31 22
def bX10_odds_22 (X : jX) : jK := i_mask [true, true, true, true] <| i_iload 3 <| i_push (.int 0) <| i_push (.int 1) <| i_invS X 152 3 <| i_if_ne X 35 31
def bX10_odds_31 (X : jX) : jK := i_mask [false, false, false, false] <| i_push (.long (-4611686018427387904)) <| i_lreturn X
def bX10_odds_35 (X : jX) : jK := i_mask [true, true, true, true] <| i_aload 0 <| i_getf 10 1 <| i_iload 2 <| i_iload 1 <| i_invV X 97 2 9 <| i_aload 0 <| i_getf 10 1 <| i_iload 1 <| i_invV X 98 1 9 <| i_iload 3 <| i_invS X 156 3 <| i_lreturn X
def pX10_odds : jX → Nat → jK := fun X => jpick [(0, bX10_odds_0 X), (11, bX10_odds_11 X), (22, bX10_odds_22 X), (31, bX10_odds_31 X), (35, bX10_odds_35 X)]
def mX10_odds : jMt := (yX10_odds, cX10_odds, 4, (some .long), pX10_odds)
def bX10_was_0 (X : jX) : jK := i_mask [true, true] <| i_aload 0 <| i_getf 10 1 <| i_iload 1 <| i_invV X 96 1 9 <| i_if_eq X 22 11
def bX10_was_11 (X : jX) : jK := i_mask [true, true] <| i_aload 0 <| i_getf 10 1 <| i_iload 1 <| i_invV X 100 1 9 <| i_mask [false, false] <| i_goto X 24
def bX10_was_22 (X : jX) : jK := i_mask [false, false] <| i_push (.int (-5)) <| i_mask [false, false] <| i_goto X 24
def bX10_was_24 (X : jX) : jK := i_mask [false, false] <| i_ireturn X
def pX10_was : jX → Nat → jK := fun X => jpick [(0, bX10_was_0 X), (11, bX10_was_11 X), (22, bX10_was_22 X), (24, bX10_was_24 X)]
def mX10_was : jMt := (yX10_was, cX10_was, 2, (some .int), pX10_was)
def bX10_list_0 (X : jX) : jK := i_mask [true, true, true, false] <| i_iload 1 <| i_push (.int 0) <| i_aload 0 <| i_getf 10 1 <| i_getf 9 3 <| i_invS X 152 3 <| i_if_eq X 24 15
def bX10_list_15 (X : jX) : jK := i_mask [true, true, true, false] <| i_iload 2 <| i_push (.int 0) <| i_push (.int 1) <| i_invS X 152 3 <| i_if_ne X 27 24
def bX10_list_24 (X : jX) : jK := i_mask [false, false, false, false] <| i_push (.int (-2)) <| i_ireturn X
def bX10_list_27 (X : jX) : jK := i_mask [true, true, true, false] <| i_aload 0 <| i_getf 10 1 <| i_iload 1 <| i_invV X 101 1 9 <| i_istore 3 <| i_iload 2 <| i_if_ne X 44 40
def bX10_list_40 (X : jX) : jK := i_mask [false, false, false, true] <| i_iload 3 <| i_mask [false, false, false, false] <| i_goto X 52
def bX10_list_44 (X : jX) : jK := i_mask [true, false, false, true] <| i_aload 0 <| i_getf 10 1 <| i_iload 3 <| i_invV X 102 1 9 <| i_mask [false, false, false, false] <| i_goto X 52
def bX10_list_52 (X : jX) : jK := i_mask [false, false, false, false] <| i_ireturn X
def pX10_list : jX → Nat → jK := fun X => jpick [(0, bX10_list_0 X), (15, bX10_list_15 X), (24, bX10_list_24 X), (27, bX10_list_27 X), (40, bX10_list_40 X), (44, bX10_list_44 X), (52, bX10_list_52 X)]
def mX10_list : jMt := (yX10_list, cX10_list, 4, (some .int), pX10_list)
def bX10_bits_0 (X : jX) : jK := i_mask [true, true, true] <| i_iload 1 <| i_push (.int 0) <| i_push (.int 9999) <| i_invS X 152 3 <| i_if_eq X 21 11
def bX10_bits_11 (X : jX) : jK := i_mask [true, true, true] <| i_iload 2 <| i_push (.int 0) <| i_push (.int 15) <| i_invS X 152 3 <| i_if_ne X 24 21
def bX10_bits_21 (X : jX) : jK := i_mask [false, false, false] <| i_push (.int (-2)) <| i_ireturn X
def bX10_bits_24 (X : jX) : jK := i_mask [true, true, true] <| i_aload 0 <| i_getf 10 1 <| i_iload 1 <| i_iload 2 <| i_invV X 103 2 9 <| i_ireturn X
def pX10_bits : jX → Nat → jK := fun X => jpick [(0, bX10_bits_0 X), (11, bX10_bits_11 X), (21, bX10_bits_21 X), (24, bX10_bits_24 X)]
def mX10_bits : jMt := (yX10_bits, cX10_bits, 3, (some .int), pX10_bits)
def bX10_ask_0 (X : jX) : jK := i_mask [true, true, true, true, false, false, false, false, false] <| i_iload 1 <| i_push (.int 0) <| i_push (.int 9999) <| i_invS X 152 3 <| i_if_eq X 30 11
def bX10_ask_11 (X : jX) : jK := i_mask [true, true, true, true, false, false, false, false, false] <| i_iload 2 <| i_push (.int 0) <| i_push (.int 15) <| i_invS X 152 3 <| i_if_eq X 30 21
def bX10_ask_21 (X : jX) : jK := i_mask [true, true, true, true, false, false, false, false, false] <| i_iload 3 <| i_push (.int 0) <| i_push (.int 1) <| i_invS X 152 3 <| i_if_ne X 33 30
def bX10_ask_30 (X : jX) : jK := i_mask [false, false, false, false, false, false, false, false, false] <| i_push (.int (-2)) <| i_ireturn X
def bX10_ask_33 (X : jX) : jK := i_mask [true, true, true, true, false, false, false, false, false] <| i_aload 0 <| i_getf 10 1 <| i_iload 1 <| i_iload 2 <| i_invV X 103 2 9 <| i_istore 4 <| i_push (.int (-1)) <| i_istore 5 <| i_push (.int (-1)) <| i_istore 6 <| i_push (.int 0) <| i_istore 7 <| i_mask [true, false, true, true, true, true, true, true, false] <| i_goto X 53
def bX10_ask_53 (X : jX) : jK := i_mask [true, false, true, true, true, true, true, true, false] <| i_iload 7 <| i_push (.int 4) <| i_cmp_ge X 107 59
def bX10_ask_59 (X : jX) : jK := i_mask [true, false, true, true, true, true, true, true, false] <| i_iload 2 <| i_iload 7 <| i_ishr <| i_push (.int 1) <| i_iand <| i_if_ne X 101 68
def bX10_ask_68 (X : jX) : jK := i_mask [true, false, true, true, true, true, true, true, false] <| i_aload 0 <| i_getf 10 1 <| i_iload 4 <| i_iload 7 <| i_invV X 106 2 9 <| i_istore 8 <| i_iload 5 <| i_if_lt X 93 86
def bX10_ask_86 (X : jX) : jK := i_mask [true, false, true, true, true, true, true, true, true] <| i_iload 8 <| i_iload 6 <| i_cmp_ge X 101 93
def bX10_ask_93 (X : jX) : jK := i_mask [true, false, true, true, true, false, false, true, true] <| i_iload 7 <| i_istore 5 <| i_iload 8 <| i_istore 6 <| i_mask [true, false, true, true, true, true, true, true, false] <| i_goto X 101
def bX10_ask_101 (X : jX) : jK := i_mask [true, false, true, true, true, true, true, true, false] <| i_iinc 7 1 <| i_mask [true, false, true, true, true, true, true, true, false] <| i_goto X 53
def bX10_ask_107 (X : jX) : jK := i_mask [false, false, false, true, false, true, true, false, false] <| i_iload 3 <| i_if_ne X 116 111
def bX10_ask_111 (X : jX) : jK := i_mask [false, false, false, false, false, true, false, false, false] <| i_iload 5 <| i_mask [false, false, false, false, false, false, false, false, false] <| i_goto X 118
def bX10_ask_116 (X : jX) : jK := i_mask [false, false, false, false, false, false, true, false, false] <| i_iload 6 <| i_mask [false, false, false, false, false, false, false, false, false] <| i_goto X 118
def bX10_ask_118 (X : jX) : jK := i_mask [false, false, false, false, false, false, false, false, false] <| i_ireturn X
def pX10_ask : jX → Nat → jK := fun X => jpick [(0, bX10_ask_0 X), (11, bX10_ask_11 X), (21, bX10_ask_21 X), (30, bX10_ask_30 X), (33, bX10_ask_33 X), (53, bX10_ask_53 X), (59, bX10_ask_59 X), (68, bX10_ask_68 X), (86, bX10_ask_86 X), (93, bX10_ask_93 X), (101, bX10_ask_101 X), (107, bX10_ask_107 X), (111, bX10_ask_111 X), (116, bX10_ask_116 X), (118, bX10_ask_118 X)]
def mX10_ask : jMt := (yX10_ask, cX10_ask, 9, (some .int), pX10_ask)
def bX10_clocks_0 (X : jX) : jK := i_mask [false, true, true, true, true, false, false] <| i_iload 1 <| i_push (.int (-9999)) <| i_push (.int 9999) <| i_invS X 152 3 <| i_if_eq X 47 13
def bX10_clocks_13 (X : jX) : jK := i_mask [false, true, true, true, true, false, false] <| i_iload 2 <| i_push (.int (-9999)) <| i_push (.int 9999) <| i_invS X 152 3 <| i_if_eq X 47 26
def bX10_clocks_26 (X : jX) : jK := i_mask [false, true, true, true, true, false, false] <| i_iload 3 <| i_push (.int 0) <| i_push (.int 9999) <| i_invS X 152 3 <| i_if_eq X 47 37
def bX10_clocks_37 (X : jX) : jK := i_mask [false, true, true, true, true, false, false] <| i_iload 4 <| i_push (.int 0) <| i_push (.int 3) <| i_invS X 152 3 <| i_if_ne X 51 47
def bX10_clocks_47 (X : jX) : jK := i_mask [false, false, false, false, false, false, false] <| i_push (.long (-4611686018427387904)) <| i_lreturn X
def bX10_clocks_51 (X : jX) : jK := i_mask [false, true, true, true, true, false, false] <| i_iload 3 <| i_push (.int 100) <| i_idiv <| i_istore 5 <| i_iload 3 <| i_push (.int 100) <| i_irem <| i_istore 6 <| i_iload 5 <| i_push (.int 1) <| i_cmp_lt X 75 69
def bX10_clocks_69 (X : jX) : jK := i_mask [false, true, true, false, true, true, true] <| i_iload 6 <| i_push (.int 1) <| i_cmp_ge X 79 75
def bX10_clocks_75 (X : jX) : jK := i_mask [false, false, false, false, false, false, false] <| i_push (.long (-4611686018427387904)) <| i_lreturn X
def bX10_clocks_79 (X : jX) : jK := i_mask [false, true, true, false, true, true, true] <| i_iload 4 <| i_push (.int 2) <| i_cmp_ge X 109 85
def bX10_clocks_85 (X : jX) : jK := i_mask [false, true, true, false, true, true, true] <| i_iload 1 <| i_iload 6 <| i_imul <| i_iload 2 <| i_iload 5 <| i_imul <| i_iadd <| i_i2l <| i_iload 5 <| i_iload 6 <| i_iadd <| i_i2l <| i_iload 4 <| i_invS X 156 3 <| i_mask [false, false, false, false, false, false, false] <| i_goto X 128
def bX10_clocks_109 (X : jX) : jK := i_mask [false, false, false, false, true, true, true] <| i_iload 5 <| i_iload 6 <| i_imul <| i_i2l <| i_iload 5 <| i_iload 6 <| i_iadd <| i_i2l <| i_iload 4 <| i_push (.int 2) <| i_isub <| i_invS X 156 3 <| i_mask [false, false, false, false, false, false, false] <| i_goto X 128
def bX10_clocks_128 (X : jX) : jK := i_mask [false, false, false, false, false, false, false] <| i_lreturn X
def pX10_clocks : jX → Nat → jK := fun X => jpick [(0, bX10_clocks_0 X), (13, bX10_clocks_13 X), (26, bX10_clocks_26 X), (37, bX10_clocks_37 X), (47, bX10_clocks_47 X), (51, bX10_clocks_51 X), (69, bX10_clocks_69 X), (75, bX10_clocks_75 X), (79, bX10_clocks_79 X), (85, bX10_clocks_85 X), (109, bX10_clocks_109 X), (128, bX10_clocks_128 X)]
def mX10_clocks : jMt := (yX10_clocks, cX10_clocks, 7, (some .long), pX10_clocks)
def bX10_print_0 (X : jX) : jK := i_mask [true, true, true, true, true] <| i_iload 1 <| i_invS X 153 1 <| i_if_eq X 35 7
def bX10_print_7 (X : jX) : jK := i_mask [true, true, true, true, true] <| i_iload 2 <| i_invS X 154 1 <| i_if_eq X 35 14
def bX10_print_14 (X : jX) : jK := i_mask [true, true, true, true, true] <| i_iload 3 <| i_push (.int 0) <| i_push (.int 60) <| i_invS X 152 3 <| i_if_eq X 35 24
def bX10_print_24 (X : jX) : jK := i_mask [true, true, true, true, true] <| i_iload 4 <| i_push (.int 0) <| i_push (.int 9) <| i_invS X 152 3 <| i_if_ne X 38 35
def bX10_print_35 (X : jX) : jK := i_mask [false, false, false, false, false] <| i_push (.int (-2)) <| i_ireturn X
def bX10_print_38 (X : jX) : jK := i_mask [true, true, true, true, true] <| i_aload 0 <| i_getf 10 2 <| i_getf 0 4 <| i_push (.int 10) <| i_cmp_lt X 55 50
def bX10_print_50 (X : jX) : jK := i_mask [false, false, false, false, false] <| i_push (.int (-4)) <| i_mask [false, false, false, false, false] <| i_goto X 67
def bX10_print_55 (X : jX) : jK := i_mask [true, true, true, true, true] <| i_aload 0 <| i_getf 10 2 <| i_iload 1 <| i_iload 2 <| i_iload 3 <| i_iload 4 <| i_invV X 1 4 0 <| i_mask [false, false, false, false, false] <| i_goto X 67
def bX10_print_67 (X : jX) : jK := i_mask [false, false, false, false, false] <| i_ireturn X
def pX10_print : jX → Nat → jK := fun X => jpick [(0, bX10_print_0 X), (7, bX10_print_7 X), (14, bX10_print_14 X), (24, bX10_print_24 X), (35, bX10_print_35 X), (38, bX10_print_38 X), (50, bX10_print_50 X), (55, bX10_print_55 X), (67, bX10_print_67 X)]
def mX10_print : jMt := (yX10_print, cX10_print, 5, (some .int), pX10_print)
def bX10_printed_0 (X : jX) : jK := i_mask [true, true, true] <| i_iload 1 <| i_push (.int 0) <| i_aload 0 <| i_getf 10 2 <| i_getf 0 4 <| i_push (.int 1) <| i_isub <| i_invS X 152 3 <| i_if_ne X 20 17
def bX10_printed_17 (X : jX) : jK := i_mask [false, false, false] <| i_push (.int (-5)) <| i_ireturn X
def bX10_printed_20 (X : jX) : jK := i_mask [true, true, true] <| i_iload 2 <| i_sw X [(0, 52), (1, 62), (2, 72), (3, 82)] 92
def bX10_printed_52 (X : jX) : jK := i_mask [true, true, false] <| i_aload 0 <| i_getf 10 2 <| i_getf 0 0 <| i_iload 1 <| i_iald <| i_ireturn X
def bX10_printed_62 (X : jX) : jK := i_mask [true, true, false] <| i_aload 0 <| i_getf 10 2 <| i_getf 0 1 <| i_iload 1 <| i_iald <| i_ireturn X
def bX10_printed_72 (X : jX) : jK := i_mask [true, true, false] <| i_aload 0 <| i_getf 10 2 <| i_getf 0 2 <| i_iload 1 <| i_iald <| i_ireturn X
def bX10_printed_82 (X : jX) : jK := i_mask [true, true, false] <| i_aload 0 <| i_getf 10 2 <| i_getf 0 3 <| i_iload 1 <| i_iald <| i_ireturn X
def bX10_printed_92 (X : jX) : jK := i_mask [false, false, false] <| i_push (.int (-7)) <| i_ireturn X
def pX10_printed : jX → Nat → jK := fun X => jpick [(0, bX10_printed_0 X), (17, bX10_printed_17 X), (20, bX10_printed_20 X), (52, bX10_printed_52 X), (62, bX10_printed_62 X), (72, bX10_printed_72 X), (82, bX10_printed_82 X), (92, bX10_printed_92 X)]
def mX10_printed : jMt := (yX10_printed, cX10_printed, 3, (some .int), pX10_printed)
def bX10_join_0 (X : jX) : jK := i_mask [true, true] <| i_iload 1 <| i_push (.int 0) <| i_aload 0 <| i_getf 10 2 <| i_getf 0 4 <| i_push (.int 1) <| i_isub <| i_invS X 152 3 <| i_if_eq X 28 17
def bX10_join_17 (X : jX) : jK := i_mask [true, true] <| i_aload 0 <| i_getf 10 2 <| i_iload 1 <| i_invV X 2 1 0 <| i_mask [false, false] <| i_goto X 30
def bX10_join_28 (X : jX) : jK := i_mask [false, false] <| i_push (.int (-5)) <| i_mask [false, false] <| i_goto X 30
def bX10_join_30 (X : jX) : jK := i_mask [false, false] <| i_ireturn X
def pX10_join : jX → Nat → jK := fun X => jpick [(0, bX10_join_0 X), (17, bX10_join_17 X), (28, bX10_join_28 X), (30, bX10_join_30 X)]
def mX10_join : jMt := (yX10_join, cX10_join, 2, (some .int), pX10_join)
def bX10_met_0 (X : jX) : jK := i_mask [true, true] <| i_iload 1 <| i_invS X 153 1 <| i_if_eq X 18 7
def bX10_met_7 (X : jX) : jK := i_mask [true, true] <| i_aload 0 <| i_getf 10 2 <| i_iload 1 <| i_invV X 6 1 0 <| i_mask [false, false] <| i_goto X 20
def bX10_met_18 (X : jX) : jK := i_mask [false, false] <| i_push (.int (-5)) <| i_mask [false, false] <| i_goto X 20
def bX10_met_20 (X : jX) : jK := i_mask [false, false] <| i_ireturn X
def pX10_met : jX → Nat → jK := fun X => jpick [(0, bX10_met_0 X), (7, bX10_met_7 X), (18, bX10_met_18 X), (20, bX10_met_20 X)]
def mX10_met : jMt := (yX10_met, cX10_met, 2, (some .int), pX10_met)
def bX10_falseOnes_0 (X : jX) : jK := i_mask [true, true, true] <| i_iload 1 <| i_invS X 153 1 <| i_if_ne X 10 7
def bX10_falseOnes_7 (X : jX) : jK := i_mask [false, false, false] <| i_push (.int (-5)) <| i_ireturn X
def bX10_falseOnes_10 (X : jX) : jK := i_mask [true, true, true] <| i_iload 2 <| i_invS X 155 1 <| i_if_eq X 29 17
def bX10_falseOnes_17 (X : jX) : jK := i_mask [true, true, true] <| i_aload 0 <| i_getf 10 2 <| i_iload 1 <| i_iload 2 <| i_invV X 8 2 0 <| i_mask [false, false, false] <| i_goto X 31
def bX10_falseOnes_29 (X : jX) : jK := i_mask [false, false, false] <| i_push (.int (-7)) <| i_mask [false, false, false] <| i_goto X 31
def bX10_falseOnes_31 (X : jX) : jK := i_mask [false, false, false] <| i_ireturn X
def pX10_falseOnes : jX → Nat → jK := fun X => jpick [(0, bX10_falseOnes_0 X), (7, bX10_falseOnes_7 X), (10, bX10_falseOnes_10 X), (17, bX10_falseOnes_17 X), (29, bX10_falseOnes_29 X), (31, bX10_falseOnes_31 X)]
def mX10_falseOnes : jMt := (yX10_falseOnes, cX10_falseOnes, 3, (some .int), pX10_falseOnes)
def bX10_there_0 (X : jX) : jK := i_mask [true, true, true, true] <| i_iload 1 <| i_invS X 153 1 <| i_if_eq X 21 7
def bX10_there_7 (X : jX) : jK := i_mask [true, true, true, true] <| i_iload 2 <| i_invS X 155 1 <| i_if_eq X 21 14
def bX10_there_14 (X : jX) : jK := i_mask [true, true, true, true] <| i_iload 3 <| i_invS X 154 1 <| i_if_ne X 25 21
def bX10_there_21 (X : jX) : jK := i_mask [false, false, false, false] <| i_push (.long (-4611686018427387904)) <| i_lreturn X
def bX10_there_25 (X : jX) : jK := i_mask [true, true, true, true] <| i_aload 0 <| i_getf 10 2 <| i_iload 1 <| i_iload 2 <| i_iload 3 <| i_invV X 12 3 0 <| i_lreturn X
def pX10_there : jX → Nat → jK := fun X => jpick [(0, bX10_there_0 X), (7, bX10_there_7 X), (14, bX10_there_14 X), (21, bX10_there_21 X), (25, bX10_there_25 X)]
def mX10_there : jMt := (yX10_there, cX10_there, 4, (some .long), pX10_there)
def bX10_last_0 (X : jX) : jK := i_mask [true, true, true, true, false] <| i_iload 1 <| i_invS X 153 1 <| i_if_ne X 10 7
def bX10_last_7 (X : jX) : jK := i_mask [false, false, false, false, false] <| i_push (.int (-5)) <| i_ireturn X
def bX10_last_10 (X : jX) : jK := i_mask [true, true, true, true, false] <| i_iload 2 <| i_invS X 155 1 <| i_if_eq X 26 17
def bX10_last_17 (X : jX) : jK := i_mask [true, true, true, true, false] <| i_iload 3 <| i_push (.int 0) <| i_push (.int 1) <| i_invS X 152 3 <| i_if_ne X 29 26
def bX10_last_26 (X : jX) : jK := i_mask [false, false, false, false, false] <| i_push (.int (-7)) <| i_ireturn X
def bX10_last_29 (X : jX) : jK := i_mask [true, true, true, true, false] <| i_aload 0 <| i_getf 10 2 <| i_iload 1 <| i_iload 2 <| i_invV X 14 2 0 <| i_istore 4 <| i_iload 4 <| i_if_ge X 47 45
def bX10_last_45 (X : jX) : jK := i_mask [false, false, false, false, false] <| i_push (.int (-1)) <| i_ireturn X
def bX10_last_47 (X : jX) : jK := i_mask [true, false, false, true, true] <| i_iload 3 <| i_if_ne X 64 51
def bX10_last_51 (X : jX) : jK := i_mask [true, false, false, false, true] <| i_aload 0 <| i_getf 10 2 <| i_getf 0 1 <| i_iload 4 <| i_iald <| i_mask [false, false, false, false, false] <| i_goto X 74
def bX10_last_64 (X : jX) : jK := i_mask [true, false, false, false, true] <| i_aload 0 <| i_getf 10 2 <| i_getf 0 2 <| i_iload 4 <| i_iald <| i_mask [false, false, false, false, false] <| i_goto X 74
def bX10_last_74 (X : jX) : jK := i_mask [false, false, false, false, false] <| i_ireturn X
def pX10_last : jX → Nat → jK := fun X => jpick [(0, bX10_last_0 X), (7, bX10_last_7 X), (10, bX10_last_10 X), (17, bX10_last_17 X), (26, bX10_last_26 X), (29, bX10_last_29 X), (45, bX10_last_45 X), (47, bX10_last_47 X), (51, bX10_last_51 X), (64, bX10_last_64 X), (74, bX10_last_74 X)]
def mX10_last : jMt := (yX10_last, cX10_last, 5, (some .int), pX10_last)
def bX10_cellOdds_0 (X : jX) : jK := i_mask [true, true, true, true, true, false, true, false, false, false, false] <| i_iload 2 <| i_push (.int 1000) <| i_idiv <| i_istore 7 <| i_iload 2 <| i_push (.int 1000) <| i_irem <| i_istore 8 <| i_iload 1 <| i_invS X 153 1 <| i_if_eq X 41 21
def bX10_cellOdds_21 (X : jX) : jK := i_mask [true, true, true, true, true, false, true, true, true, false, false] <| i_iload 2 <| i_if_lt X 41 25
def bX10_cellOdds_25 (X : jX) : jK := i_mask [true, true, false, true, true, false, true, true, true, false, false] <| i_iload 7 <| i_invS X 155 1 <| i_if_eq X 41 33
def bX10_cellOdds_33 (X : jX) : jK := i_mask [true, true, false, true, true, false, true, true, true, false, false] <| i_iload 8 <| i_invS X 154 1 <| i_if_ne X 45 41
def bX10_cellOdds_41 (X : jX) : jK := i_mask [false, false, false, false, false, false, false, false, false, false, false] <| i_push (.long (-4611686018427387904)) <| i_lreturn X
def bX10_cellOdds_45 (X : jX) : jK := i_mask [true, true, false, true, true, false, true, true, true, false, false] <| i_iload 3 <| i_push (.int 0) <| i_push (.int 60) <| i_invS X 152 3 <| i_if_eq X 65 55
def bX10_cellOdds_55 (X : jX) : jK := i_mask [true, true, false, true, true, false, true, true, true, false, false] <| i_iload 6 <| i_push (.int 0) <| i_push (.int 1) <| i_invS X 152 3 <| i_if_ne X 69 65
def bX10_cellOdds_65 (X : jX) : jK := i_mask [false, false, false, false, false, false, false, false, false, false, false] <| i_push (.long (-4611686018427387904)) <| i_lreturn X
def bX10_cellOdds_69 (X : jX) : jK := i_mask [true, true, false, true, true, false, true, true, true, false, false] <| i_aload 0 <| i_getf 10 2 <| i_iload 1 <| i_iload 7 <| i_iload 8 <| i_invV X 12 3 0 <| i_lload 4 <| i_push (.long (-1)) <| i_lxor <| i_land <| i_lstore 9 <| i_lload 9 <| i_iload 3 <| i_lushr <| i_push (.long 1) <| i_land <| i_lload 9 <| i_invS X 274 1 <| i_i2l <| i_iload 6 <| i_invS X 156 3 <| i_lreturn X
def pX10_cellOdds : jX → Nat → jK := fun X => jpick [(0, bX10_cellOdds_0 X), (21, bX10_cellOdds_21 X), (25, bX10_cellOdds_25 X), (33, bX10_cellOdds_33 X), (41, bX10_cellOdds_41 X), (45, bX10_cellOdds_45 X), (55, bX10_cellOdds_55 X), (65, bX10_cellOdds_65 X), (69, bX10_cellOdds_69 X)]
def mX10_cellOdds : jMt := (yX10_cellOdds, cX10_cellOdds, 11, (some .long), pX10_cellOdds)
def bX10_meet_0 (X : jX) : jK := i_mask [true, true, true, true] <| i_iload 1 <| i_invS X 154 1 <| i_if_eq X 26 7
def bX10_meet_7 (X : jX) : jK := i_mask [true, true, true, true] <| i_iload 2 <| i_invS X 153 1 <| i_if_eq X 26 14
def bX10_meet_14 (X : jX) : jK := i_mask [true, true, true, true] <| i_iload 3 <| i_invS X 153 1 <| i_if_eq X 26 21
def bX10_meet_21 (X : jX) : jK := i_mask [true, true, true, true] <| i_iload 2 <| i_iload 3 <| i_cmp_ne X 29 26
def bX10_meet_26 (X : jX) : jK := i_mask [false, false, false, false] <| i_push (.int (-2)) <| i_ireturn X
def bX10_meet_29 (X : jX) : jK := i_mask [true, true, true, true] <| i_iload 1 <| i_aload 0 <| i_getf 10 3 <| i_invV X 26 0 3 <| i_cmp_ge X 43 40
def bX10_meet_40 (X : jX) : jK := i_mask [false, false, false, false] <| i_push (.int (-3)) <| i_ireturn X
def bX10_meet_43 (X : jX) : jK := i_mask [true, true, true, true] <| i_aload 0 <| i_getf 10 3 <| i_getf 3 3 <| i_push (.int 24) <| i_cmp_lt X 60 55
def bX10_meet_55 (X : jX) : jK := i_mask [false, false, false, false] <| i_push (.int (-4)) <| i_mask [false, false, false, false] <| i_goto X 70
def bX10_meet_60 (X : jX) : jK := i_mask [true, true, true, true] <| i_aload 0 <| i_getf 10 3 <| i_iload 1 <| i_iload 2 <| i_iload 3 <| i_invV X 25 3 3 <| i_mask [false, false, false, false] <| i_goto X 70
def bX10_meet_70 (X : jX) : jK := i_mask [false, false, false, false] <| i_ireturn X
def pX10_meet : jX → Nat → jK := fun X => jpick [(0, bX10_meet_0 X), (7, bX10_meet_7 X), (14, bX10_meet_14 X), (21, bX10_meet_21 X), (26, bX10_meet_26 X), (29, bX10_meet_29 X), (40, bX10_meet_40 X), (43, bX10_meet_43 X), (55, bX10_meet_55 X), (60, bX10_meet_60 X), (70, bX10_meet_70 X)]
def mX10_meet : jMt := (yX10_meet, cX10_meet, 4, (some .int), pX10_meet)
def bX10_news_0 (X : jX) : jK := i_mask [true, true, true, true] <| i_iload 1 <| i_invS X 153 1 <| i_if_eq X 14 7
def bX10_news_7 (X : jX) : jK := i_mask [true, true, true, true] <| i_iload 3 <| i_invS X 153 1 <| i_if_ne X 17 14
def bX10_news_14 (X : jX) : jK := i_mask [false, false, false, false] <| i_push (.int (-5)) <| i_ireturn X
def bX10_news_17 (X : jX) : jK := i_mask [true, true, true, true] <| i_iload 2 <| i_invS X 154 1 <| i_if_eq X 38 24
def bX10_news_24 (X : jX) : jK := i_mask [true, true, true, true] <| i_aload 0 <| i_getf 10 3 <| i_iload 1 <| i_iload 2 <| i_iload 3 <| i_push (.int (-1)) <| i_invV X 28 4 3 <| i_mask [false, false, false, false] <| i_goto X 40
def bX10_news_38 (X : jX) : jK := i_mask [false, false, false, false] <| i_push (.int (-7)) <| i_mask [false, false, false, false] <| i_goto X 40
def bX10_news_40 (X : jX) : jK := i_mask [false, false, false, false] <| i_ireturn X
def pX10_news : jX → Nat → jK := fun X => jpick [(0, bX10_news_0 X), (7, bX10_news_7 X), (14, bX10_news_14 X), (17, bX10_news_17 X), (24, bX10_news_24 X), (38, bX10_news_38 X), (40, bX10_news_40 X)]
def mX10_news : jMt := (yX10_news, cX10_news, 4, (some .int), pX10_news)
def bX10_peace_0 (X : jX) : jK := i_mask [true, true, true, true] <| i_iload 1 <| i_invS X 153 1 <| i_if_ne X 10 7
def bX10_peace_7 (X : jX) : jK := i_mask [false, false, false, false] <| i_push (.int (-5)) <| i_ireturn X
def bX10_peace_10 (X : jX) : jK := i_mask [true, true, true, true] <| i_iload 2 <| i_invS X 154 1 <| i_if_eq X 37 17
def bX10_peace_17 (X : jX) : jK := i_mask [true, true, true, true] <| i_iload 3 <| i_invS X 154 1 <| i_if_eq X 37 24
def bX10_peace_24 (X : jX) : jK := i_mask [true, true, true, true] <| i_aload 0 <| i_getf 10 3 <| i_iload 1 <| i_iload 2 <| i_iload 3 <| i_invV X 29 3 3 <| i_mask [false, false, false, false] <| i_goto X 39
def bX10_peace_37 (X : jX) : jK := i_mask [false, false, false, false] <| i_push (.int (-7)) <| i_mask [false, false, false, false] <| i_goto X 39
def bX10_peace_39 (X : jX) : jK := i_mask [false, false, false, false] <| i_ireturn X
def pX10_peace : jX → Nat → jK := fun X => jpick [(0, bX10_peace_0 X), (7, bX10_peace_7 X), (10, bX10_peace_10 X), (17, bX10_peace_17 X), (24, bX10_peace_24 X), (37, bX10_peace_37 X), (39, bX10_peace_39 X)]
def mX10_peace : jMt := (yX10_peace, cX10_peace, 4, (some .int), pX10_peace)
def bX10_key_0 (X : jX) : jK := i_mask [true, true, true, true] <| i_iload 1 <| i_invS X 153 1 <| i_if_eq X 14 7
def bX10_key_7 (X : jX) : jK := i_mask [true, true, true, true] <| i_iload 3 <| i_invS X 153 1 <| i_if_ne X 17 14
def bX10_key_14 (X : jX) : jK := i_mask [false, false, false, false] <| i_push (.int (-5)) <| i_ireturn X
def bX10_key_17 (X : jX) : jK := i_mask [true, true, true, true] <| i_iload 2 <| i_invS X 154 1 <| i_if_eq X 37 24
def bX10_key_24 (X : jX) : jK := i_mask [true, true, true, true] <| i_aload 0 <| i_getf 10 3 <| i_iload 1 <| i_iload 2 <| i_iload 3 <| i_invV X 30 3 3 <| i_mask [false, false, false, false] <| i_goto X 39
def bX10_key_37 (X : jX) : jK := i_mask [false, false, false, false] <| i_push (.int (-7)) <| i_mask [false, false, false, false] <| i_goto X 39
def bX10_key_39 (X : jX) : jK := i_mask [false, false, false, false] <| i_ireturn X
def pX10_key : jX → Nat → jK := fun X => jpick [(0, bX10_key_0 X), (7, bX10_key_7 X), (14, bX10_key_14 X), (17, bX10_key_17 X), (24, bX10_key_24 X), (37, bX10_key_37 X), (39, bX10_key_39 X)]
def mX10_key : jMt := (yX10_key, cX10_key, 4, (some .int), pX10_key)
def bX10_drawn_0 (X : jX) : jK := i_mask [true, true, true, false, false] <| i_iload 1 <| i_push (.int 0) <| i_push (.int 99999) <| i_invS X 152 3 <| i_if_eq X 20 11
def bX10_drawn_11 (X : jX) : jK := i_mask [true, true, true, false, false] <| i_iload 2 <| i_push (.int 0) <| i_push (.int 2) <| i_invS X 152 3 <| i_if_ne X 23 20
def bX10_drawn_20 (X : jX) : jK := i_mask [false, false, false, false, false] <| i_push (.int (-2)) <| i_ireturn X
def bX10_drawn_23 (X : jX) : jK := i_mask [true, true, true, false, false] <| i_aload 0 <| i_getf 10 0 <| i_iload 1 <| i_invV X 78 1 6 <| i_istore 3 <| i_iload 2 <| i_push (.int 1) <| i_cmp_ne X 39 37
def bX10_drawn_37 (X : jX) : jK := i_mask [false, false, false, true, false] <| i_iload 3 <| i_ireturn X
def bX10_drawn_39 (X : jX) : jK := i_mask [true, false, true, true, false] <| i_aload 0 <| i_getf 10 0 <| i_iload 3 <| i_invV X 79 1 6 <| i_istore 4 <| i_iload 2 <| i_if_ne X 58 53
def bX10_drawn_53 (X : jX) : jK := i_mask [false, false, false, false, true] <| i_iload 4 <| i_mask [false, false, false, false, false] <| i_goto X 70
def bX10_drawn_58 (X : jX) : jK := i_mask [true, false, false, false, true] <| i_aload 0 <| i_getf 10 0 <| i_getf 6 0 <| i_iload 4 <| i_invV X 40 1 4 <| i_mask [false, false, false, false, false] <| i_goto X 70
def bX10_drawn_70 (X : jX) : jK := i_mask [false, false, false, false, false] <| i_ireturn X
def pX10_drawn : jX → Nat → jK := fun X => jpick [(0, bX10_drawn_0 X), (11, bX10_drawn_11 X), (20, bX10_drawn_20 X), (23, bX10_drawn_23 X), (37, bX10_drawn_37 X), (39, bX10_drawn_39 X), (53, bX10_drawn_53 X), (58, bX10_drawn_58 X), (70, bX10_drawn_70 X)]
def mX10_drawn : jMt := (yX10_drawn, cX10_drawn, 5, (some .int), pX10_drawn)
def bX10_image_0 (X : jX) : jK := i_mask [true] <| i_aload 0 <| i_getf 10 5 <| i_aload 0 <| i_getf 10 0 <| i_getf 6 0 <| i_aload 0 <| i_getf 10 1 <| i_invV X 16 2 1 <| i_aload 0 <| i_getf 10 0 <| i_getf 6 5 <| i_ireturn X
def pX10_image : jX → Nat → jK := fun X => jpick [(0, bX10_image_0 X)]
def mX10_image : jMt := (yX10_image, cX10_image, 1, (some .int), pX10_image)
def bX10_back_0 (X : jX) : jK := i_mask [true] <| i_aload 0 <| i_getf 10 5 <| i_getf 1 3 <| i_if_ne X 13 10
def bX10_back_10 (X : jX) : jK := i_mask [false] <| i_push (.int (-3)) <| i_ireturn X
def bX10_back_13 (X : jX) : jK := i_mask [true] <| i_aload 0 <| i_getf 10 5 <| i_aload 0 <| i_getf 10 0 <| i_getf 6 0 <| i_aload 0 <| i_getf 10 1 <| i_invV X 17 2 1 <| i_aload 0 <| i_getf 10 0 <| i_getf 6 5 <| i_ireturn X
def pX10_back : jX → Nat → jK := fun X => jpick [(0, bX10_back_0 X), (10, bX10_back_10 X), (13, bX10_back_13 X)]
def mX10_back : jMt := (yX10_back, cX10_back, 1, (some .int), pX10_back)
def bX10_sheet_0 (X : jX) : jK := i_mask [true, true, true, true] <| i_iload 1 <| i_push (.int 0) <| i_push (.int 3) <| i_invS X 152 3 <| i_if_eq X 18 9
def bX10_sheet_9 (X : jX) : jK := i_mask [true, true, true, true] <| i_iload 2 <| i_push (.int (-1)) <| i_push (.int 2) <| i_invS X 152 3 <| i_if_ne X 21 18
def bX10_sheet_18 (X : jX) : jK := i_mask [false, false, false, false] <| i_push (.int (-2)) <| i_ireturn X
def bX10_sheet_21 (X : jX) : jK := i_mask [true, true, true, true] <| i_iload 2 <| i_push (.int (-1)) <| i_cmp_ne X 37 26
def bX10_sheet_26 (X : jX) : jK := i_mask [true, true, true, false] <| i_aload 0 <| i_getf 10 4 <| i_iload 1 <| i_iload 2 <| i_push (.int 0) <| i_invV X 81 3 7 <| i_ireturn X
def bX10_sheet_37 (X : jX) : jK := i_mask [true, true, true, true] <| i_iload 3 <| i_push (.int 40) <| i_cmp_le X 46 43
def bX10_sheet_43 (X : jX) : jK := i_mask [false, false, false, false] <| i_push (.int (-2)) <| i_ireturn X
def bX10_sheet_46 (X : jX) : jK := i_mask [true, true, true, true] <| i_iload 3 <| i_if_ge X 55 50
def bX10_sheet_50 (X : jX) : jK := i_mask [false, false, false, false] <| i_push (.int (-14)) <| i_mask [false, false, false, false] <| i_goto X 65
def bX10_sheet_55 (X : jX) : jK := i_mask [true, true, true, true] <| i_aload 0 <| i_getf 10 4 <| i_iload 1 <| i_iload 2 <| i_iload 3 <| i_invV X 81 3 7 <| i_mask [false, false, false, false] <| i_goto X 65
def bX10_sheet_65 (X : jX) : jK := i_mask [false, false, false, false] <| i_ireturn X
def pX10_sheet : jX → Nat → jK := fun X => jpick [(0, bX10_sheet_0 X), (9, bX10_sheet_9 X), (18, bX10_sheet_18 X), (21, bX10_sheet_21 X), (26, bX10_sheet_26 X), (37, bX10_sheet_37 X), (43, bX10_sheet_43 X), (46, bX10_sheet_46 X), (50, bX10_sheet_50 X), (55, bX10_sheet_55 X), (65, bX10_sheet_65 X)]
def mX10_sheet : jMt := (yX10_sheet, cX10_sheet, 4, (some .int), pX10_sheet)
def bX10_cell_0 (X : jX) : jK := i_mask [true, true, true, true] <| i_iload 1 <| i_push (.int 0) <| i_push (.int 3) <| i_invS X 152 3 <| i_if_ne X 12 9
def bX10_cell_9 (X : jX) : jK := i_mask [false, false, false, false] <| i_push (.int (-2)) <| i_ireturn X
def bX10_cell_12 (X : jX) : jK := i_mask [true, true, true, true] <| i_aload 0 <| i_getf 10 4 <| i_getf 7 1 <| i_iload 1 <| i_iald <| i_push (.int (-1)) <| i_cmp_ne X 28 25
def bX10_cell_25 (X : jX) : jK := i_mask [false, false, false, false] <| i_push (.int (-11)) <| i_ireturn X
def bX10_cell_28 (X : jX) : jK := i_mask [true, true, true, true] <| i_iload 2 <| i_push (.int 0) <| i_aload 0 <| i_getf 10 4 <| i_getf 7 2 <| i_iload 1 <| i_iald <| i_push (.int 1) <| i_isub <| i_invS X 152 3 <| i_if_eq X 60 47
def bX10_cell_47 (X : jX) : jK := i_mask [true, true, true, true] <| i_aload 0 <| i_getf 10 4 <| i_iload 1 <| i_iload 2 <| i_iload 3 <| i_invV X 82 3 7 <| i_mask [false, false, false, false] <| i_goto X 62
def bX10_cell_60 (X : jX) : jK := i_mask [false, false, false, false] <| i_push (.int (-12)) <| i_mask [false, false, false, false] <| i_goto X 62
def bX10_cell_62 (X : jX) : jK := i_mask [false, false, false, false] <| i_ireturn X
def pX10_cell : jX → Nat → jK := fun X => jpick [(0, bX10_cell_0 X), (9, bX10_cell_9 X), (12, bX10_cell_12 X), (25, bX10_cell_25 X), (28, bX10_cell_28 X), (47, bX10_cell_47 X), (60, bX10_cell_60 X), (62, bX10_cell_62 X)]
def mX10_cell : jMt := (yX10_cell, cX10_cell, 4, (some .int), pX10_cell)
def bX10_copy_0 (X : jX) : jK := i_mask [true, true, true, true, true, true] <| i_iload 1 <| i_push (.int 0) <| i_push (.int 3) <| i_invS X 152 3 <| i_if_eq X 18 9
def bX10_copy_9 (X : jX) : jK := i_mask [true, true, true, true, true, true] <| i_iload 3 <| i_push (.int 0) <| i_push (.int 3) <| i_invS X 152 3 <| i_if_ne X 21 18
def bX10_copy_18 (X : jX) : jK := i_mask [false, false, false, false, false, false] <| i_push (.int (-2)) <| i_ireturn X
def bX10_copy_21 (X : jX) : jK := i_mask [true, true, true, true, true, true] <| i_aload 0 <| i_getf 10 4 <| i_getf 7 1 <| i_iload 1 <| i_iald <| i_push (.int (-1)) <| i_cmp_eq X 47 34
def bX10_copy_34 (X : jX) : jK := i_mask [true, true, true, true, true, true] <| i_aload 0 <| i_getf 10 4 <| i_getf 7 1 <| i_iload 3 <| i_iald <| i_push (.int (-1)) <| i_cmp_ne X 50 47
def bX10_copy_47 (X : jX) : jK := i_mask [false, false, false, false, false, false] <| i_push (.int (-11)) <| i_ireturn X
def bX10_copy_50 (X : jX) : jK := i_mask [true, true, true, true, true, true] <| i_aload 0 <| i_getf 10 4 <| i_getf 7 1 <| i_iload 1 <| i_iald <| i_aload 0 <| i_getf 10 4 <| i_getf 7 1 <| i_iload 3 <| i_iald <| i_cmp_eq X 74 71
def bX10_copy_71 (X : jX) : jK := i_mask [false, false, false, false, false, false] <| i_push (.int (-13)) <| i_ireturn X
def bX10_copy_74 (X : jX) : jK := i_mask [true, true, true, true, true, true] <| i_aload 0 <| i_getf 10 4 <| i_iload 1 <| i_iload 2 <| i_iload 5 <| i_invV X 83 3 7 <| i_if_eq X 103 88
def bX10_copy_88 (X : jX) : jK := i_mask [true, true, true, true, true, true] <| i_aload 0 <| i_getf 10 4 <| i_iload 3 <| i_iload 4 <| i_iload 5 <| i_invV X 83 3 7 <| i_if_ne X 106 103
def bX10_copy_103 (X : jX) : jK := i_mask [false, false, false, false, false, false] <| i_push (.int (-12)) <| i_ireturn X
def bX10_copy_106 (X : jX) : jK := i_mask [true, true, true, true, true, true] <| i_aload 0 <| i_getf 10 4 <| i_getf 7 0 <| i_iload 1 <| i_aald <| i_iload 2 <| i_aload 0 <| i_getf 10 4 <| i_getf 7 0 <| i_iload 3 <| i_aald <| i_iload 4 <| i_iload 5 <| i_copy <| i_iload 5 <| i_ireturn X
def pX10_copy : jX → Nat → jK := fun X => jpick [(0, bX10_copy_0 X), (9, bX10_copy_9 X), (18, bX10_copy_18 X), (21, bX10_copy_21 X), (34, bX10_copy_34 X), (47, bX10_copy_47 X), (50, bX10_copy_50 X), (71, bX10_copy_71 X), (74, bX10_copy_74 X), (88, bX10_copy_88 X), (103, bX10_copy_103 X), (106, bX10_copy_106 X)]
def mX10_copy : jMt := (yX10_copy, cX10_copy, 6, (some .int), pX10_copy)
def bX10_sayingsBy_0 (X : jX) : jK := i_mask [true, true, true, true, true, false, false, false, false] <| i_iload 1 <| i_push (.int 0) <| i_push (.int 3) <| i_invS X 152 3 <| i_if_eq X 29 9
def bX10_sayingsBy_9 (X : jX) : jK := i_mask [true, true, true, true, true, false, false, false, false] <| i_iload 2 <| i_push (.int 0) <| i_push (.int 2) <| i_invS X 152 3 <| i_if_eq X 29 18
def bX10_sayingsBy_18 (X : jX) : jK := i_mask [true, true, true, true, true, false, false, false, false] <| i_iload 4 <| i_push (.int 0) <| i_push (.int 8) <| i_invS X 152 3 <| i_if_ne X 32 29
def bX10_sayingsBy_29 (X : jX) : jK := i_mask [false, false, false, false, false, false, false, false, false] <| i_push (.int (-2)) <| i_ireturn X
def bX10_sayingsBy_32 (X : jX) : jK := i_mask [true, true, true, true, true, false, false, false, false] <| i_aload 0 <| i_getf 10 4 <| i_getf 7 1 <| i_iload 1 <| i_iald <| i_push (.int (-1)) <| i_cmp_ne X 48 45
def bX10_sayingsBy_45 (X : jX) : jK := i_mask [false, false, false, false, false, false, false, false, false] <| i_push (.int (-11)) <| i_ireturn X
def bX10_sayingsBy_48 (X : jX) : jK := i_mask [true, true, true, true, true, false, false, false, false] <| i_aload 0 <| i_getf 10 4 <| i_getf 7 1 <| i_iload 1 <| i_iald <| i_iload 2 <| i_cmp_eq X 64 61
def bX10_sayingsBy_61 (X : jX) : jK := i_mask [false, false, false, false, false, false, false, false, false] <| i_push (.int (-13)) <| i_ireturn X
def bX10_sayingsBy_64 (X : jX) : jK := i_mask [true, true, false, true, true, false, false, false, false] <| i_aload 0 <| i_getf 10 4 <| i_getf 7 0 <| i_iload 1 <| i_aald <| i_astore 5 <| i_push (.int 0) <| i_istore 6 <| i_push (.int 0) <| i_istore 7 <| i_mask [true, true, false, true, true, true, true, true, false] <| i_goto X 81
def bX10_sayingsBy_81 (X : jX) : jK := i_mask [true, true, false, true, true, true, true, true, false] <| i_iload 7 <| i_iload 4 <| i_cmp_ge X 148 88
def bX10_sayingsBy_88 (X : jX) : jK := i_mask [true, true, false, true, true, true, true, true, false] <| i_iload 3 <| i_push (.int 3) <| i_iload 7 <| i_imul <| i_iadd <| i_istore 8 <| i_aload 0 <| i_getf 10 4 <| i_iload 1 <| i_iload 8 <| i_push (.int 3) <| i_invV X 83 3 7 <| i_if_ne X 113 110
def bX10_sayingsBy_110 (X : jX) : jK := i_mask [false, false, false, false, false, false, false, false, false] <| i_push (.int (-12)) <| i_ireturn X
def bX10_sayingsBy_113 (X : jX) : jK := i_mask [true, true, false, true, true, true, true, true, true] <| i_aload 0 <| i_aload 5 <| i_iload 8 <| i_iald <| i_aload 5 <| i_iload 8 <| i_push (.int 1) <| i_iadd <| i_iald <| i_aload 5 <| i_iload 8 <| i_push (.int 2) <| i_iadd <| i_iald <| i_invV X 116 3 10 <| i_if_lt X 142 139
def bX10_sayingsBy_139 (X : jX) : jK := i_mask [true, true, false, true, true, true, true, true, false] <| i_iinc 6 1 <| i_mask [true, true, false, true, true, true, true, true, false] <| i_goto X 142
def bX10_sayingsBy_142 (X : jX) : jK := i_mask [true, true, false, true, true, true, true, true, false] <| i_iinc 7 1 <| i_mask [true, true, false, true, true, true, true, true, false] <| i_goto X 81
def bX10_sayingsBy_148 (X : jX) : jK := i_mask [false, false, false, false, false, false, true, false, false] <| i_iload 6 <| i_ireturn X
def pX10_sayingsBy : jX → Nat → jK := fun X => jpick [(0, bX10_sayingsBy_0 X), (9, bX10_sayingsBy_9 X), (18, bX10_sayingsBy_18 X), (29, bX10_sayingsBy_29 X), (32, bX10_sayingsBy_32 X), (45, bX10_sayingsBy_45 X), (48, bX10_sayingsBy_48 X), (61, bX10_sayingsBy_61 X), (64, bX10_sayingsBy_64 X), (81, bX10_sayingsBy_81 X), (88, bX10_sayingsBy_88 X), (110, bX10_sayingsBy_110 X), (113, bX10_sayingsBy_113 X), (139, bX10_sayingsBy_139 X), (142, bX10_sayingsBy_142 X), (148, bX10_sayingsBy_148 X)]
def mX10_sayingsBy : jMt := (yX10_sayingsBy, cX10_sayingsBy, 9, (some .int), pX10_sayingsBy)
def bX10_taken_0 (X : jX) : jK := i_mask [true, true, true, false, false] <| i_iload 2 <| i_push (.int 0) <| i_push (.int 6) <| i_invS X 152 3 <| i_if_ne X 13 10
def bX10_taken_10 (X : jX) : jK := i_mask [false, false, false, false, false] <| i_push (.int (-2)) <| i_ireturn X
def bX10_taken_13 (X : jX) : jK := i_mask [true, true, true, false, false] <| i_iload 1 <| i_push (.int 0) <| i_push (.int 13) <| i_invS X 152 3 <| i_if_ne X 26 23
def bX10_taken_23 (X : jX) : jK := i_mask [false, false, false, false, false] <| i_push (.int (-12)) <| i_ireturn X
def bX10_taken_26 (X : jX) : jK := i_mask [true, true, true, false, false] <| i_iload 1 <| i_push (.int 6) <| i_cmp_ge X 36 32
def bX10_taken_32 (X : jX) : jK := i_mask [true, true, true, false, false] <| i_push (.int 1) <| i_mask [true, true, true, false, false] <| i_goto X 37
def bX10_taken_36 (X : jX) : jK := i_mask [true, true, true, false, false] <| i_push (.int 0) <| i_mask [true, true, true, false, false] <| i_goto X 37
def bX10_taken_37 (X : jX) : jK := i_mask [true, true, true, false, false] <| i_istore 3 <| i_iload 3 <| i_if_eq X 46 42
def bX10_taken_42 (X : jX) : jK := i_mask [true, true, true, true, false] <| i_iload 1 <| i_mask [true, false, true, true, false] <| i_goto X 50
def bX10_taken_46 (X : jX) : jK := i_mask [true, true, true, true, false] <| i_iload 1 <| i_push (.int 6) <| i_isub <| i_mask [true, false, true, true, false] <| i_goto X 50
def bX10_taken_50 (X : jX) : jK := i_mask [true, false, true, true, false] <| i_istore 4 <| i_iload 4 <| i_iload 3 <| i_if_eq X 68 58
def bX10_taken_58 (X : jX) : jK := i_mask [true, false, true, true, true] <| i_aload 0 <| i_getf 10 1 <| i_getf 9 3 <| i_mask [true, false, true, true, true] <| i_goto X 75
def bX10_taken_68 (X : jX) : jK := i_mask [true, false, true, true, true] <| i_aload 0 <| i_getf 10 0 <| i_getf 6 5 <| i_mask [true, false, true, true, true] <| i_goto X 75
def bX10_taken_75 (X : jX) : jK := i_mask [true, false, true, true, true] <| i_cmp_lt X 81 78
def bX10_taken_78 (X : jX) : jK := i_mask [false, false, false, false, false] <| i_push (.int (-11)) <| i_ireturn X
def bX10_taken_81 (X : jX) : jK := i_mask [true, false, true, true, true] <| i_iload 3 <| i_if_eq X 107 85
def bX10_taken_85 (X : jX) : jK := i_mask [true, false, true, false, true] <| i_iload 2 <| i_push (.int 6) <| i_cmp_ne X 104 91
def bX10_taken_91 (X : jX) : jK := i_mask [true, false, false, false, true] <| i_aload 0 <| i_getf 10 1 <| i_getf 9 0 <| i_iload 4 <| i_iald <| i_mask [false, false, false, false, false] <| i_goto X 106
def bX10_taken_104 (X : jX) : jK := i_mask [false, false, false, false, false] <| i_push (.int (-13)) <| i_mask [false, false, false, false, false] <| i_goto X 106
def bX10_taken_106 (X : jX) : jK := i_mask [false, false, false, false, false] <| i_ireturn X
def bX10_taken_107 (X : jX) : jK := i_mask [true, false, true, false, true] <| i_iload 2 <| i_push (.int 6) <| i_cmp_ge X 131 113
def bX10_taken_113 (X : jX) : jK := i_mask [true, false, true, false, true] <| i_aload 0 <| i_getf 10 0 <| i_iload 4 <| i_iload 2 <| i_invV X 56 2 6 <| i_if_eq X 131 126
def bX10_taken_126 (X : jX) : jK := i_mask [false, false, false, false, true] <| i_iload 4 <| i_mask [false, false, false, false, false] <| i_goto X 133
def bX10_taken_131 (X : jX) : jK := i_mask [false, false, false, false, false] <| i_push (.int (-13)) <| i_mask [false, false, false, false, false] <| i_goto X 133
def bX10_taken_133 (X : jX) : jK := i_mask [false, false, false, false, false] <| i_ireturn X
def pX10_taken : jX → Nat → jK := fun X => jpick [(0, bX10_taken_0 X), (10, bX10_taken_10 X), (13, bX10_taken_13 X), (23, bX10_taken_23 X), (26, bX10_taken_26 X), (32, bX10_taken_32 X), (36, bX10_taken_36 X), (37, bX10_taken_37 X), (42, bX10_taken_42 X), (46, bX10_taken_46 X), (50, bX10_taken_50 X), (58, bX10_taken_58 X), (68, bX10_taken_68 X), (75, bX10_taken_75 X), (78, bX10_taken_78 X), (81, bX10_taken_81 X), (85, bX10_taken_85 X), (91, bX10_taken_91 X), (104, bX10_taken_104 X), (106, bX10_taken_106 X), (107, bX10_taken_107 X), (113, bX10_taken_113 X), (126, bX10_taken_126 X), (131, bX10_taken_131 X), (133, bX10_taken_133 X)]
def mX10_taken : jMt := (yX10_taken, cX10_taken, 5, (some .int), pX10_taken)
def bX10_within_0 (X : jX) : jK := i_mask [true, true, true] <| i_iload 0 <| i_iload 1 <| i_cmp_lt X 14 5
def bX10_within_5 (X : jX) : jK := i_mask [true, false, true] <| i_iload 0 <| i_iload 2 <| i_cmp_gt X 14 10
def bX10_within_10 (X : jX) : jK := i_mask [false, false, false] <| i_push (.int 1) <| i_mask [false, false, false] <| i_goto X 15
def bX10_within_14 (X : jX) : jK := i_mask [false, false, false] <| i_push (.int 0) <| i_mask [false, false, false] <| i_goto X 15
def bX10_within_15 (X : jX) : jK := i_mask [false, false, false] <| i_ireturn X
def pX10_within : jX → Nat → jK := fun X => jpick [(0, bX10_within_0 X), (5, bX10_within_5 X), (10, bX10_within_10 X), (14, bX10_within_14 X), (15, bX10_within_15 X)]
def mX10_within : jMt := (yX10_within, cX10_within, 3, (some .boolean), pX10_within)
def bX10_isShip_0 (X : jX) : jK := i_mask [true] <| i_iload 0 <| i_push (.int 0) <| i_push (.int 3) <| i_invS X 152 3 <| i_ireturn X
def pX10_isShip : jX → Nat → jK := fun X => jpick [(0, bX10_isShip_0 X)]
def mX10_isShip : jMt := (yX10_isShip, cX10_isShip, 1, (some .boolean), pX10_isShip)
def bX10_isDay_0 (X : jX) : jK := i_mask [true] <| i_iload 0 <| i_push (.int 0) <| i_push (.int 365) <| i_invS X 152 3 <| i_ireturn X
def pX10_isDay : jX → Nat → jK := fun X => jpick [(0, bX10_isDay_0 X)]
def mX10_isDay : jMt := (yX10_isDay, cX10_isDay, 1, (some .boolean), pX10_isDay)
def bX10_isSpeed_0 (X : jX) : jK := i_mask [true] <| i_iload 0 <| i_push (.int 0) <| i_push (.int 60) <| i_invS X 152 3 <| i_ireturn X
def pX10_isSpeed : jX → Nat → jK := fun X => jpick [(0, bX10_isSpeed_0 X)]
def mX10_isSpeed : jMt := (yX10_isSpeed, cX10_isSpeed, 1, (some .boolean), pX10_isSpeed)
def bX10_lowest_0 (X : jX) : jK := i_mask [true, false, true, false, true, false, false] <| i_lload 0 <| i_mabs_long X <| i_lload 2 <| i_invS X 157 2 <| i_lstore 5 <| i_lload 5 <| i_push (.long 0) <| i_lcmp <| i_if_ne X 21 17
def bX10_lowest_17 (X : jX) : jK := i_mask [false, false, false, false, true, false, false] <| i_iload 4 <| i_i2l <| i_lreturn X
def bX10_lowest_21 (X : jX) : jK := i_mask [true, false, true, false, true, true, false] <| i_iload 4 <| i_if_ne X 30 26
def bX10_lowest_26 (X : jX) : jK := i_mask [true, false, false, false, false, true, false] <| i_lload 0 <| i_mask [false, false, false, false, false, true, false] <| i_goto X 31
def bX10_lowest_30 (X : jX) : jK := i_mask [false, false, true, false, false, true, false] <| i_lload 2 <| i_mask [false, false, false, false, false, true, false] <| i_goto X 31
def bX10_lowest_31 (X : jX) : jK := i_mask [false, false, false, false, false, true, false] <| i_lload 5 <| i_ldiv <| i_lreturn X
def pX10_lowest : jX → Nat → jK := fun X => jpick [(0, bX10_lowest_0 X), (17, bX10_lowest_17 X), (21, bX10_lowest_21 X), (26, bX10_lowest_26 X), (30, bX10_lowest_30 X), (31, bX10_lowest_31 X)]
def mX10_lowest : jMt := (yX10_lowest, cX10_lowest, 7, (some .long), pX10_lowest)
def bX10_greatestDivisor_0 (X : jX) : jK := i_mask [true, false, true, false, false, false, false, false, false, false, false] <| i_lload 0 <| i_lstore 4 <| i_lload 2 <| i_lstore 6 <| i_push (.int 0) <| i_istore 8 <| i_mask [false, false, false, false, true, false, true, false, true, false, false] <| i_goto X 9
def bX10_greatestDivisor_9 (X : jX) : jK := i_mask [false, false, false, false, true, false, true, false, true, false, false] <| i_iload 8 <| i_push (.int 130) <| i_cmp_ge X 45 17
def bX10_greatestDivisor_17 (X : jX) : jK := i_mask [false, false, false, false, true, false, true, false, true, false, false] <| i_lload 6 <| i_push (.long 0) <| i_lcmp <| i_if_eq X 45 24
def bX10_greatestDivisor_24 (X : jX) : jK := i_mask [false, false, false, false, true, false, true, false, true, false, false] <| i_lload 4 <| i_lload 6 <| i_lrem <| i_lstore 9 <| i_lload 6 <| i_lstore 4 <| i_lload 9 <| i_lstore 6 <| i_iinc 8 1 <| i_mask [false, false, false, false, true, false, true, false, true, false, false] <| i_goto X 9
def bX10_greatestDivisor_45 (X : jX) : jK := i_mask [false, false, false, false, true, false, false, false, false, false, false] <| i_lload 4 <| i_lreturn X
def pX10_greatestDivisor : jX → Nat → jK := fun X => jpick [(0, bX10_greatestDivisor_0 X), (9, bX10_greatestDivisor_9 X), (17, bX10_greatestDivisor_17 X), (24, bX10_greatestDivisor_24 X), (45, bX10_greatestDivisor_45 X)]
def mX10_greatestDivisor : jMt := (yX10_greatestDivisor, cX10_greatestDivisor, 11, (some .long), pX10_greatestDivisor)
def bX11_init_0 (X : jX) : jK := i_mask [true] <| i_aload 0 <| i_objInit <| i_aload 0 <| i_push (.int 6) <| i_newI X <| i_dup <| i_push (.int 0) <| i_push (.int 4) <| i_iast <| i_dup <| i_push (.int 1) <| i_push (.int 2) <| i_iast <| i_dup <| i_push (.int 2) <| i_push (.int 0) <| i_iast <| i_dup <| i_push (.int 3) <| i_push (.int 3) <| i_iast <| i_dup <| i_push (.int 4) <| i_push (.int 0) <| i_iast <| i_dup <| i_push (.int 5) <| i_push (.int 11) <| i_iast <| i_putR 11 1 <| i_aload 0 <| i_push (.int 6) <| i_newI X <| i_dup <| i_push (.int 0) <| i_push (.int 9) <| i_iast <| i_dup <| i_push (.int 1) <| i_push (.int 7) <| i_mask [true] <| i_goto X 51
def bX11_init_51 (X : jX) : jK := i_mask [true] <| i_iast <| i_dup <| i_push (.int 2) <| i_push (.int 5) <| i_iast <| i_dup <| i_push (.int 3) <| i_push (.int 3) <| i_iast <| i_dup <| i_push (.int 4) <| i_push (.int 2) <| i_iast <| i_dup <| i_push (.int 5) <| i_push (.int 1) <| i_iast <| i_putR 11 2 <| i_aload 0 <| i_push (.int 160) <| i_newB X <| i_putR 11 3 <| i_aload 0 <| i_push (.int 1) <| i_putI 11 5 <| i_aload 0 <| i_push (.int 1190) <| i_newI X <| i_putR 11 7 <| i_aload 0 <| i_push (.int 1190) <| i_newI X <| i_putR 11 8 <| i_aload 0 <| i_push (.int 21) <| i_newI X <| i_putR 11 9 <| i_aload 0 <| i_push (.int 170) <| i_newI X <| i_mask [true] <| i_goto X 117
def bX11_init_117 (X : jX) : jK := i_mask [true] <| i_putR 11 17 <| i_aload 0 <| i_push (.int 6) <| i_newI X <| i_putR 11 18 <| i_aload 0 <| i_push (.int 59) <| i_newI X <| i_dup <| i_push (.int 0) <| i_push (.int 102) <| i_iast <| i_dup <| i_push (.int 1) <| i_push (.int 97) <| i_iast <| i_dup <| i_push (.int 2) <| i_push (.int 114) <| i_iast <| i_dup <| i_push (.int 3) <| i_push (.int 32) <| i_iast <| i_dup <| i_push (.int 4) <| i_push (.int 119) <| i_iast <| i_dup <| i_push (.int 5) <| i_push (.int 105) <| i_iast <| i_dup <| i_push (.int 6) <| i_push (.int 110) <| i_iast <| i_dup <| i_push (.int 7) <| i_push (.int 100) <| i_iast <| i_mask [true] <| i_goto X 175
def bX11_init_175 (X : jX) : jK := i_mask [true] <| i_dup <| i_push (.int 8) <| i_push (.int 32) <| i_iast <| i_dup <| i_push (.int 9) <| i_push (.int 110) <| i_iast <| i_dup <| i_push (.int 10) <| i_push (.int 111) <| i_iast <| i_dup <| i_push (.int 11) <| i_push (.int 105) <| i_iast <| i_dup <| i_push (.int 12) <| i_push (.int 115) <| i_iast <| i_dup <| i_push (.int 13) <| i_push (.int 101) <| i_iast <| i_dup <| i_push (.int 14) <| i_push (.int 32) <| i_iast <| i_dup <| i_push (.int 15) <| i_push (.int 119) <| i_iast <| i_dup <| i_push (.int 16) <| i_push (.int 111) <| i_iast <| i_dup <| i_push (.int 17) <| i_push (.int 114) <| i_iast <| i_mask [true] <| i_goto X 235
def bX11_init_235 (X : jX) : jK := i_mask [true] <| i_dup <| i_push (.int 18) <| i_push (.int 100) <| i_iast <| i_dup <| i_push (.int 19) <| i_push (.int 32) <| i_iast <| i_dup <| i_push (.int 20) <| i_push (.int 115) <| i_iast <| i_dup <| i_push (.int 21) <| i_push (.int 97) <| i_iast <| i_dup <| i_push (.int 22) <| i_push (.int 105) <| i_iast <| i_dup <| i_push (.int 23) <| i_push (.int 108) <| i_iast <| i_dup <| i_push (.int 24) <| i_push (.int 32) <| i_iast <| i_dup <| i_push (.int 25) <| i_push (.int 109) <| i_iast <| i_dup <| i_push (.int 26) <| i_push (.int 105) <| i_iast <| i_dup <| i_push (.int 27) <| i_push (.int 110) <| i_iast <| i_mask [true] <| i_goto X 295
def bX11_init_295 (X : jX) : jK := i_mask [true] <| i_dup <| i_push (.int 28) <| i_push (.int 117) <| i_iast <| i_dup <| i_push (.int 29) <| i_push (.int 116) <| i_iast <| i_dup <| i_push (.int 30) <| i_push (.int 101) <| i_iast <| i_dup <| i_push (.int 31) <| i_push (.int 32) <| i_iast <| i_dup <| i_push (.int 32) <| i_push (.int 104) <| i_iast <| i_dup <| i_push (.int 33) <| i_push (.int 97) <| i_iast <| i_dup <| i_push (.int 34) <| i_push (.int 100) <| i_iast <| i_dup <| i_push (.int 35) <| i_push (.int 32) <| i_iast <| i_dup <| i_push (.int 36) <| i_push (.int 99) <| i_iast <| i_dup <| i_push (.int 37) <| i_push (.int 104) <| i_iast <| i_mask [true] <| i_goto X 355
def bX11_init_355 (X : jX) : jK := i_mask [true] <| i_dup <| i_push (.int 38) <| i_push (.int 97) <| i_iast <| i_dup <| i_push (.int 39) <| i_push (.int 108) <| i_iast <| i_dup <| i_push (.int 40) <| i_push (.int 107) <| i_iast <| i_dup <| i_push (.int 41) <| i_push (.int 32) <| i_iast <| i_dup <| i_push (.int 42) <| i_push (.int 116) <| i_iast <| i_dup <| i_push (.int 43) <| i_push (.int 97) <| i_iast <| i_dup <| i_push (.int 44) <| i_push (.int 107) <| i_iast <| i_dup <| i_push (.int 45) <| i_push (.int 101) <| i_iast <| i_dup <| i_push (.int 46) <| i_push (.int 115) <| i_iast <| i_dup <| i_push (.int 47) <| i_push (.int 32) <| i_iast <| i_mask [true] <| i_goto X 415
def bX11_init_415 (X : jX) : jK := i_mask [true] <| i_dup <| i_push (.int 48) <| i_push (.int 111) <| i_iast <| i_dup <| i_push (.int 49) <| i_push (.int 114) <| i_iast <| i_dup <| i_push (.int 50) <| i_push (.int 32) <| i_iast <| i_dup <| i_push (.int 51) <| i_push (.int 97) <| i_iast <| i_dup <| i_push (.int 52) <| i_push (.int 110) <| i_iast <| i_dup <| i_push (.int 53) <| i_push (.int 100) <| i_iast <| i_dup <| i_push (.int 54) <| i_push (.int 32) <| i_iast <| i_dup <| i_push (.int 55) <| i_push (.int 110) <| i_iast <| i_dup <| i_push (.int 56) <| i_push (.int 111) <| i_iast <| i_dup <| i_push (.int 57) <| i_push (.int 116) <| i_iast <| i_mask [true] <| i_goto X 475
def bX11_init_475 (X : jX) : jK := i_mask [true] <| i_dup <| i_push (.int 58) <| i_push (.int 32) <| i_iast <| i_putR 11 19 <| i_aload 0 <| i_push (.int 12) <| i_newI X <| i_dup <| i_push (.int 0) <| i_push (.int 0) <| i_iast <| i_dup <| i_push (.int 1) <| i_push (.int 1) <| i_iast <| i_dup <| i_push (.int 2) <| i_push (.int 2) <| i_iast <| i_dup <| i_push (.int 3) <| i_push (.int 3) <| i_iast <| i_dup <| i_push (.int 4) <| i_push (.int 4) <| i_iast <| i_dup <| i_push (.int 5) <| i_push (.int 5) <| i_iast <| i_dup <| i_push (.int 6) <| i_push (.int 10) <| i_iast <| i_dup <| i_push (.int 7) <| i_push (.int 11) <| i_iast <| i_mask [true] <| i_goto X 525
def bX11_init_525 (X : jX) : jK := i_mask [true] <| i_dup <| i_push (.int 8) <| i_push (.int 12) <| i_iast <| i_dup <| i_push (.int 9) <| i_push (.int 13) <| i_iast <| i_dup <| i_push (.int 10) <| i_push (.int 14) <| i_iast <| i_dup <| i_push (.int 11) <| i_push (.int 15) <| i_iast <| i_putR 11 20 <| i_aload 0 <| i_push (.int 8) <| i_newI X <| i_putR 11 22 <| i_aload 0 <| i_push (.int 8) <| i_newI X <| i_putR 11 23 <| i_aload 0 <| i_push (.int 8) <| i_newI X <| i_putR 11 24 <| i_aload 0 <| i_push (.int 8) <| i_newI X <| i_putR 11 26 <| i_aload 0 <| i_push (.int 8) <| i_newI X <| i_putR 11 27 <| i_aload 0 <| i_push (.int 8) <| i_newI X <| i_mask [true] <| i_goto X 597
def bX11_init_597 (X : jX) : jK := i_mask [true] <| i_putR 11 28 <| i_aload 0 <| i_push (.int 6) <| i_newJ X <| i_putR 11 30 <| i_aload 0 <| i_push (.int 8) <| i_newI X <| i_putR 11 31 <| i_aload 0 <| i_push (.int 6) <| i_newI X <| i_putR 11 34 <| i_aload 0 <| i_push (.int 6) <| i_newI X <| i_putR 11 35 <| i_aload 0 <| i_push (.int 36) <| i_newI X <| i_putR 11 36 <| i_aload 0 <| i_push (.int 10) <| i_newI X <| i_putR 11 38 <| i_aload 0 <| i_push (.int 10) <| i_newI X <| i_putR 11 39 <| i_aload 0 <| i_push (.int 10) <| i_newI X <| i_putR 11 40 <| i_aload 0 <| i_push (.int 10) <| i_newI X <| i_putR 11 41 <| i_aload 0 <| i_push (.int 24) <| i_newI X <| i_mask [true] <| i_goto X 677
def bX11_init_677 (X : jX) : jK := i_mask [true] <| i_putR 11 43 <| i_aload 0 <| i_push (.int 24) <| i_newI X <| i_putR 11 44 <| i_aload 0 <| i_push (.int 24) <| i_newI X <| i_putR 11 45 <| i_aload 0 <| i_push (.int 4) <| i_newI X <| i_putR 11 46 <| i_aload 0 <| i_push (.int 6) <| i_newI X <| i_putR 11 50 <| i_aload 0 <| i_push (.int 6) <| i_newI X <| i_putR 11 51 <| i_aload 0 <| i_push (.int 36) <| i_newI X <| i_putR 11 52 <| i_aload 0 <| i_push (.int 4) <| i_newI X <| i_dup <| i_push (.int 0) <| i_push (.int (-1)) <| i_iast <| i_dup <| i_push (.int 1) <| i_push (.int (-1)) <| i_iast <| i_dup <| i_push (.int 2) <| i_push (.int (-1)) <| i_iast <| i_mask [true] <| i_goto X 743
def bX11_init_743 (X : jX) : jK := i_mask [true] <| i_dup <| i_push (.int 3) <| i_push (.int (-1)) <| i_iast <| i_putR 11 53 <| i_aload 0 <| i_push (.int 4) <| i_newI X <| i_putR 11 54 <| i_aload 0 <| i_push (.int 160) <| i_newI X <| i_putR 11 55 <| i_aload 0 <| i_push (.int 40) <| i_newI X <| i_putR 11 56 <| i_return X
def pX11_init : jX → Nat → jK := fun X => jpick [(0, bX11_init_0 X), (51, bX11_init_51 X), (117, bX11_init_117 X), (175, bX11_init_175 X), (235, bX11_init_235 X), (295, bX11_init_295 X), (355, bX11_init_355 X), (415, bX11_init_415 X), (475, bX11_init_475 X), (525, bX11_init_525 X), (597, bX11_init_597 X), (677, bX11_init_677 X), (743, bX11_init_743 X)]
def mX11_init : jMt := (yX11_init, cX11_init, 1, none, pX11_init)
def bX11_in_0 (X : jX) : jK := i_mask [true, true, true] <| i_iload 0 <| i_iload 1 <| i_cmp_lt X 14 5
def bX11_in_5 (X : jX) : jK := i_mask [true, false, true] <| i_iload 0 <| i_iload 2 <| i_cmp_gt X 14 10
def bX11_in_10 (X : jX) : jK := i_mask [false, false, false] <| i_push (.int 1) <| i_mask [false, false, false] <| i_goto X 15
def bX11_in_14 (X : jX) : jK := i_mask [false, false, false] <| i_push (.int 0) <| i_mask [false, false, false] <| i_goto X 15
def bX11_in_15 (X : jX) : jK := i_mask [false, false, false] <| i_ireturn X
def pX11_in : jX → Nat → jK := fun X => jpick [(0, bX11_in_0 X), (5, bX11_in_5 X), (10, bX11_in_10 X), (14, bX11_in_14 X), (15, bX11_in_15 X)]
def mX11_in : jMt := (yX11_in, cX11_in, 3, (some .boolean), pX11_in)
def bX11_held_0 (X : jX) : jK := i_mask [true, true, true] <| i_iload 0 <| i_iload 1 <| i_cmp_ge X 9 5
def bX11_held_5 (X : jX) : jK := i_mask [false, true, false] <| i_iload 1 <| i_mask [false, false, false] <| i_goto X 19
def bX11_held_9 (X : jX) : jK := i_mask [true, false, true] <| i_iload 0 <| i_iload 2 <| i_cmp_le X 18 14
def bX11_held_14 (X : jX) : jK := i_mask [false, false, true] <| i_iload 2 <| i_mask [false, false, false] <| i_goto X 19
def bX11_held_18 (X : jX) : jK := i_mask [true, false, false] <| i_iload 0 <| i_mask [false, false, false] <| i_goto X 19
def bX11_held_19 (X : jX) : jK := i_mask [false, false, false] <| i_ireturn X
def pX11_held : jX → Nat → jK := fun X => jpick [(0, bX11_held_0 X), (5, bX11_held_5 X), (9, bX11_held_9 X), (14, bX11_held_14 X), (18, bX11_held_18 X), (19, bX11_held_19 X)]
def mX11_held : jMt := (yX11_held, cX11_held, 3, (some .int), pX11_held)
def bX11_sizeOf_0 (X : jX) : jK := i_mask [true] <| i_iload 0 <| i_if_ge X 9 4
def bX11_sizeOf_4 (X : jX) : jK := i_mask [true] <| i_iload 0 <| i_ineg <| i_mask [false] <| i_goto X 10
def bX11_sizeOf_9 (X : jX) : jK := i_mask [true] <| i_iload 0 <| i_mask [false] <| i_goto X 10
def bX11_sizeOf_10 (X : jX) : jK := i_mask [false] <| i_ireturn X
def pX11_sizeOf : jX → Nat → jK := fun X => jpick [(0, bX11_sizeOf_0 X), (4, bX11_sizeOf_4 X), (9, bX11_sizeOf_9 X), (10, bX11_sizeOf_10 X)]
def mX11_sizeOf : jMt := (yX11_sizeOf, cX11_sizeOf, 1, (some .int), pX11_sizeOf)
def bX11_bitsOf_0 (X : jX) : jK := i_mask [true, false, false] <| i_push (.int 0) <| i_istore 1 <| i_iload 0 <| i_istore 2 <| i_mask [false, true, true] <| i_goto X 4
def bX11_bitsOf_4 (X : jX) : jK := i_mask [false, true, true] <| i_iload 2 <| i_if_eq X 20 8
def bX11_bitsOf_8 (X : jX) : jK := i_mask [false, true, true] <| i_iinc 1 1 <| i_iload 2 <| i_iload 2 <| i_push (.int 1) <| i_isub <| i_iand <| i_istore 2 <| i_mask [false, true, true] <| i_goto X 4
def bX11_bitsOf_20 (X : jX) : jK := i_mask [false, true, false] <| i_iload 1 <| i_ireturn X
def pX11_bitsOf : jX → Nat → jK := fun X => jpick [(0, bX11_bitsOf_0 X), (4, bX11_bitsOf_4 X), (8, bX11_bitsOf_8 X), (20, bX11_bitsOf_20 X)]
def mX11_bitsOf : jMt := (yX11_bitsOf, cX11_bitsOf, 3, (some .int), pX11_bitsOf)
def bX11_isNow_0 (X : jX) : jK := i_mask [true, true] <| i_iload 0 <| i_sw X [(0, 36), (1, 44), (2, 52), (3, 61), (4, 69)] 78
def bX11_isNow_36 (X : jX) : jK := i_mask [false, true] <| i_iload 1 <| i_push (.int 0) <| i_push (.int 20) <| i_invS X 159 3 <| i_ireturn X
def bX11_isNow_44 (X : jX) : jK := i_mask [false, true] <| i_iload 1 <| i_push (.int 0) <| i_push (.int 9) <| i_invS X 159 3 <| i_ireturn X
def bX11_isNow_52 (X : jX) : jK := i_mask [false, true] <| i_iload 1 <| i_push (.int (-9)) <| i_push (.int 9) <| i_invS X 159 3 <| i_ireturn X
def bX11_isNow_61 (X : jX) : jK := i_mask [false, true] <| i_iload 1 <| i_push (.int 0) <| i_push (.int 9) <| i_invS X 159 3 <| i_ireturn X
def bX11_isNow_69 (X : jX) : jK := i_mask [false, true] <| i_iload 1 <| i_push (.int 0) <| i_push (.int 4095) <| i_invS X 159 3 <| i_ireturn X
def bX11_isNow_78 (X : jX) : jK := i_mask [false, true] <| i_iload 1 <| i_push (.int 1) <| i_push (.int 12) <| i_invS X 159 3 <| i_ireturn X
def pX11_isNow : jX → Nat → jK := fun X => jpick [(0, bX11_isNow_0 X), (36, bX11_isNow_36 X), (44, bX11_isNow_44 X), (52, bX11_isNow_52 X), (61, bX11_isNow_61 X), (69, bX11_isNow_69 X), (78, bX11_isNow_78 X)]
def mX11_isNow : jMt := (yX11_isNow, cX11_isNow, 2, (some .boolean), pX11_isNow)
def bX11_set_0 (X : jX) : jK := i_mask [true, true, true, false] <| i_iload 1 <| i_push (.int 0) <| i_push (.int 5) <| i_invS X 159 3 <| i_if_ne X 11 9
def bX11_set_9 (X : jX) : jK := i_mask [false, false, false, false] <| i_push (.int (-1)) <| i_ireturn X
def bX11_set_11 (X : jX) : jK := i_mask [true, true, true, false] <| i_iload 1 <| i_iload 2 <| i_invS X 163 2 <| i_if_ne X 22 19
def bX11_set_19 (X : jX) : jK := i_mask [false, false, false, false] <| i_push (.int (-2)) <| i_ireturn X
def bX11_set_22 (X : jX) : jK := i_mask [true, true, true, false] <| i_aload 0 <| i_getf 11 1 <| i_iload 1 <| i_iald <| i_istore 3 <| i_aload 0 <| i_getf 11 1 <| i_iload 1 <| i_iload 2 <| i_iast <| i_iload 3 <| i_ireturn X
def pX11_set : jX → Nat → jK := fun X => jpick [(0, bX11_set_0 X), (9, bX11_set_9 X), (11, bX11_set_11 X), (19, bX11_set_19 X), (22, bX11_set_22 X)]
def mX11_set : jMt := (yX11_set, cX11_set, 4, (some .int), pX11_set)
def bX11_want_0 (X : jX) : jK := i_mask [true, true, true, false] <| i_iload 1 <| i_push (.int 0) <| i_push (.int 5) <| i_invS X 159 3 <| i_if_ne X 11 9
def bX11_want_9 (X : jX) : jK := i_mask [false, false, false, false] <| i_push (.int (-1)) <| i_ireturn X
def bX11_want_11 (X : jX) : jK := i_mask [true, true, true, false] <| i_iload 2 <| i_push (.int 0) <| i_push (.int 99) <| i_invS X 159 3 <| i_if_ne X 24 21
def bX11_want_21 (X : jX) : jK := i_mask [false, false, false, false] <| i_push (.int (-2)) <| i_ireturn X
def bX11_want_24 (X : jX) : jK := i_mask [true, true, true, false] <| i_aload 0 <| i_getf 11 2 <| i_iload 1 <| i_iald <| i_istore 3 <| i_aload 0 <| i_getf 11 2 <| i_iload 1 <| i_iload 2 <| i_iast <| i_iload 3 <| i_ireturn X
def pX11_want : jX → Nat → jK := fun X => jpick [(0, bX11_want_0 X), (9, bX11_want_9 X), (11, bX11_want_11 X), (21, bX11_want_21 X), (24, bX11_want_24 X)]
def mX11_want : jMt := (yX11_want, cX11_want, 4, (some .int), pX11_want)
def bX11_count_0 (X : jX) : jK := i_mask [true, true] <| i_iload 1 <| i_push (.int 0) <| i_push (.int 5) <| i_invS X 159 3 <| i_if_eq X 16 9
def bX11_count_9 (X : jX) : jK := i_mask [true, true] <| i_aload 0 <| i_getf 11 1 <| i_iload 1 <| i_iald <| i_ireturn X
def bX11_count_16 (X : jX) : jK := i_mask [true, true] <| i_iload 1 <| i_sw X [(6, 60), (7, 65), (8, 70), (9, 75), (10, 80), (11, 85), (12, 90)] 95
def bX11_count_60 (X : jX) : jK := i_mask [true, false] <| i_aload 0 <| i_getf 11 21 <| i_ireturn X
def bX11_count_65 (X : jX) : jK := i_mask [true, false] <| i_aload 0 <| i_getf 11 33 <| i_ireturn X
def bX11_count_70 (X : jX) : jK := i_mask [true, false] <| i_aload 0 <| i_getf 11 37 <| i_ireturn X
def bX11_count_75 (X : jX) : jK := i_mask [true, false] <| i_aload 0 <| i_getf 11 42 <| i_ireturn X
def bX11_count_80 (X : jX) : jK := i_mask [true, false] <| i_aload 0 <| i_getf 11 5 <| i_ireturn X
def bX11_count_85 (X : jX) : jK := i_mask [true, false] <| i_aload 0 <| i_getf 11 6 <| i_ireturn X
def bX11_count_90 (X : jX) : jK := i_mask [true, false] <| i_aload 0 <| i_getf 11 4 <| i_ireturn X
def bX11_count_95 (X : jX) : jK := i_mask [false, false] <| i_push (.int (-2)) <| i_ireturn X
def pX11_count : jX → Nat → jK := fun X => jpick [(0, bX11_count_0 X), (9, bX11_count_9 X), (16, bX11_count_16 X), (60, bX11_count_60 X), (65, bX11_count_65 X), (70, bX11_count_70 X), (75, bX11_count_75 X), (80, bX11_count_80 X), (85, bX11_count_85 X), (90, bX11_count_90 X), (95, bX11_count_95 X)]
def mX11_count : jMt := (yX11_count, cX11_count, 2, (some .int), pX11_count)
def bX11_isMinute_0 (X : jX) : jK := i_mask [true, true] <| i_iload 1 <| i_push (.int 0) <| i_aload 0 <| i_getf 11 1 <| i_push (.int 5) <| i_iald <| i_push (.int 1) <| i_isub <| i_invS X 159 3 <| i_ireturn X
def pX11_isMinute : jX → Nat → jK := fun X => jpick [(0, bX11_isMinute_0 X)]
def mX11_isMinute : jMt := (yX11_isMinute, cX11_isMinute, 2, (some .boolean), pX11_isMinute)
def bX11_farIn_0 (X : jX) : jK := i_mask [true, true] <| i_aload 0 <| i_getf 11 1 <| i_push (.int 0) <| i_iald <| i_aload 0 <| i_getf 11 1 <| i_push (.int 1) <| i_iald <| i_push (.int 2) <| i_iload 1 <| i_imul <| i_aload 0 <| i_getf 11 1 <| i_push (.int 5) <| i_iald <| i_push (.int 1) <| i_isub <| i_isub <| i_invS X 161 1 <| i_imul <| i_push (.int 2) <| i_idiv <| i_iadd <| i_ireturn X
def pX11_farIn : jX → Nat → jK := fun X => jpick [(0, bX11_farIn_0 X)]
def mX11_farIn : jMt := (yX11_farIn, cX11_farIn, 2, (some .int), pX11_farIn)
def bX11_pass_0 (X : jX) : jK := i_mask [true, true] <| i_aload 0 <| i_iload 1 <| i_invV X 167 1 11 <| i_if_eq X 16 8
def bX11_pass_8 (X : jX) : jK := i_mask [true, true] <| i_aload 0 <| i_iload 1 <| i_invV X 168 1 11 <| i_mask [false, false] <| i_goto X 18
def bX11_pass_16 (X : jX) : jK := i_mask [false, false] <| i_push (.int (-2)) <| i_mask [false, false] <| i_goto X 18
def bX11_pass_18 (X : jX) : jK := i_mask [false, false] <| i_ireturn X
def pX11_pass : jX → Nat → jK := fun X => jpick [(0, bX11_pass_0 X), (8, bX11_pass_8 X), (16, bX11_pass_16 X), (18, bX11_pass_18 X)]
def mX11_pass : jMt := (yX11_pass, cX11_pass, 2, (some .int), pX11_pass)
def bX11_feed_0 (X : jX) : jK := i_mask [true, true, false, true, false] <| i_iload 3 <| i_push (.int 1) <| i_push (.int 8) <| i_invS X 159 3 <| i_if_ne X 13 10
def bX11_feed_10 (X : jX) : jK := i_mask [false, false, false, false, false] <| i_push (.int (-2)) <| i_ireturn X
def bX11_feed_13 (X : jX) : jK := i_mask [true, true, false, true, false] <| i_aload 0 <| i_getf 11 4 <| i_iload 3 <| i_iadd <| i_push (.int 160) <| i_cmp_le X 28 25
def bX11_feed_25 (X : jX) : jK := i_mask [false, false, false, false, false] <| i_push (.int (-4)) <| i_ireturn X
def bX11_feed_28 (X : jX) : jK := i_mask [true, true, false, true, false] <| i_iload 3 <| i_push (.int 1) <| i_isub <| i_istore 4 <| i_mask [true, true, false, false, true] <| i_goto X 33
def bX11_feed_33 (X : jX) : jK := i_mask [true, true, false, false, true] <| i_iload 4 <| i_if_lt X 72 38
def bX11_feed_38 (X : jX) : jK := i_mask [true, true, false, false, true] <| i_aload 0 <| i_getf 11 3 <| i_aload 0 <| i_getf 11 4 <| i_lload 1 <| i_push (.int 8) <| i_iload 4 <| i_imul <| i_lshr <| i_l2i <| i_i2b <| i_bast <| i_aload 0 <| i_dup <| i_getf 11 4 <| i_push (.int 1) <| i_iadd <| i_putI 11 4 <| i_iinc 4 (-1) <| i_mask [true, true, false, false, true] <| i_goto X 33
def bX11_feed_72 (X : jX) : jK := i_mask [true, false, false, false, false] <| i_aload 0 <| i_getf 11 4 <| i_ireturn X
def pX11_feed : jX → Nat → jK := fun X => jpick [(0, bX11_feed_0 X), (10, bX11_feed_10 X), (13, bX11_feed_13 X), (25, bX11_feed_25 X), (28, bX11_feed_28 X), (33, bX11_feed_33 X), (38, bX11_feed_38 X), (72, bX11_feed_72 X)]
def mX11_feed : jMt := (yX11_feed, cX11_feed, 5, (some .int), pX11_feed)
def bX11_isLetter_0 (X : jX) : jK := i_mask [true] <| i_iload 0 <| i_push (.int 97) <| i_push (.int 122) <| i_invS X 159 3 <| i_ireturn X
def pX11_isLetter : jX → Nat → jK := fun X => jpick [(0, bX11_isLetter_0 X)]
def mX11_isLetter : jMt := (yX11_isLetter, cX11_isLetter, 1, (some .boolean), pX11_isLetter)
def bX11_isDigit_0 (X : jX) : jK := i_mask [true] <| i_iload 0 <| i_push (.int 48) <| i_push (.int 57) <| i_invS X 159 3 <| i_ireturn X
def pX11_isDigit : jX → Nat → jK := fun X => jpick [(0, bX11_isDigit_0 X)]
def mX11_isDigit : jMt := (yX11_isDigit, cX11_isDigit, 1, (some .boolean), pX11_isDigit)
def bX11_wordNow_0 (X : jX) : jK := i_mask [true, false, false, false, false] <| i_push (.int 0) <| i_istore 1 <| i_push (.int 0) <| i_istore 2 <| i_mask [true, true, true, false, false] <| i_goto X 4
def bX11_wordNow_4 (X : jX) : jK := i_mask [true, true, true, false, false] <| i_iload 2 <| i_push (.int 12) <| i_cmp_ge X 93 10
def bX11_wordNow_10 (X : jX) : jK := i_mask [true, true, true, false, false] <| i_aload 0 <| i_getf 11 13 <| i_istore 3 <| i_push (.int 1) <| i_istore 4 <| i_mask [true, true, true, true, true] <| i_goto X 18
def bX11_wordNow_18 (X : jX) : jK := i_mask [true, true, true, true, true] <| i_aload 0 <| i_getf 11 19 <| i_iload 1 <| i_iald <| i_push (.int 32) <| i_cmp_eq X 64 29
def bX11_wordNow_29 (X : jX) : jK := i_mask [true, true, true, true, true] <| i_iload 3 <| i_aload 0 <| i_getf 11 14 <| i_cmp_ge X 52 37
def bX11_wordNow_37 (X : jX) : jK := i_mask [true, true, true, true, true] <| i_aload 0 <| i_getf 11 3 <| i_iload 3 <| i_bald <| i_aload 0 <| i_getf 11 19 <| i_iload 1 <| i_iald <| i_cmp_eq X 55 52
def bX11_wordNow_52 (X : jX) : jK := i_mask [true, true, true, true, false] <| i_push (.int 0) <| i_istore 4 <| i_mask [true, true, true, true, true] <| i_goto X 55
def bX11_wordNow_55 (X : jX) : jK := i_mask [true, true, true, true, true] <| i_iinc 3 1 <| i_iinc 1 1 <| i_mask [true, true, true, true, true] <| i_goto X 18
def bX11_wordNow_64 (X : jX) : jK := i_mask [true, true, true, true, true] <| i_iinc 1 1 <| i_iload 4 <| i_if_eq X 87 72
def bX11_wordNow_72 (X : jX) : jK := i_mask [true, true, true, true, false] <| i_iload 3 <| i_aload 0 <| i_getf 11 14 <| i_cmp_ne X 87 80
def bX11_wordNow_80 (X : jX) : jK := i_mask [true, false, true, false, false] <| i_aload 0 <| i_getf 11 20 <| i_iload 2 <| i_iald <| i_ireturn X
def bX11_wordNow_87 (X : jX) : jK := i_mask [true, true, true, false, false] <| i_iinc 2 1 <| i_mask [true, true, true, false, false] <| i_goto X 4
def bX11_wordNow_93 (X : jX) : jK := i_mask [false, false, false, false, false] <| i_push (.int (-1)) <| i_ireturn X
def pX11_wordNow : jX → Nat → jK := fun X => jpick [(0, bX11_wordNow_0 X), (4, bX11_wordNow_4 X), (10, bX11_wordNow_10 X), (18, bX11_wordNow_18 X), (29, bX11_wordNow_29 X), (37, bX11_wordNow_37 X), (52, bX11_wordNow_52 X), (55, bX11_wordNow_55 X), (64, bX11_wordNow_64 X), (72, bX11_wordNow_72 X), (80, bX11_wordNow_80 X), (87, bX11_wordNow_87 X), (93, bX11_wordNow_93 X)]
def mX11_wordNow : jMt := (yX11_wordNow, cX11_wordNow, 5, (some .int), pX11_wordNow)
def bX11_next_0 (X : jX) : jK := i_mask [true, false] <| i_aload 0 <| i_aload 0 <| i_getf 11 14 <| i_putI 11 13 <| i_mask [true, false] <| i_goto X 8
def bX11_next_8 (X : jX) : jK := i_mask [true, false] <| i_aload 0 <| i_getf 11 13 <| i_aload 0 <| i_getf 11 4 <| i_cmp_ge X 60 19
def bX11_next_19 (X : jX) : jK := i_mask [true, false] <| i_aload 0 <| i_getf 11 3 <| i_aload 0 <| i_getf 11 13 <| i_bald <| i_push (.int 32) <| i_cmp_eq X 47 33
def bX11_next_33 (X : jX) : jK := i_mask [true, false] <| i_aload 0 <| i_getf 11 3 <| i_aload 0 <| i_getf 11 13 <| i_bald <| i_push (.int 10) <| i_cmp_ne X 60 47
def bX11_next_47 (X : jX) : jK := i_mask [true, false] <| i_aload 0 <| i_dup <| i_getf 11 13 <| i_push (.int 1) <| i_iadd <| i_putI 11 13 <| i_mask [true, false] <| i_goto X 8
def bX11_next_60 (X : jX) : jK := i_mask [true, false] <| i_aload 0 <| i_aload 0 <| i_getf 11 13 <| i_putI 11 14 <| i_aload 0 <| i_getf 11 13 <| i_aload 0 <| i_getf 11 4 <| i_cmp_lt X 93 79
def bX11_next_79 (X : jX) : jK := i_mask [true, false] <| i_aload 0 <| i_aload 0 <| i_getf 11 4 <| i_putI 11 13 <| i_aload 0 <| i_push (.int 4) <| i_putI 11 15 <| i_return X
def bX11_next_93 (X : jX) : jK := i_mask [true, false] <| i_aload 0 <| i_getf 11 3 <| i_aload 0 <| i_getf 11 13 <| i_bald <| i_istore 1 <| i_iload 1 <| i_invS X 171 1 <| i_if_eq X 176 110
def bX11_next_110 (X : jX) : jK := i_mask [true, false] <| i_aload 0 <| i_getf 11 14 <| i_aload 0 <| i_getf 11 4 <| i_cmp_ge X 149 121
def bX11_next_121 (X : jX) : jK := i_mask [true, false] <| i_aload 0 <| i_getf 11 3 <| i_aload 0 <| i_getf 11 14 <| i_bald <| i_invS X 171 1 <| i_if_eq X 149 136
def bX11_next_136 (X : jX) : jK := i_mask [true, false] <| i_aload 0 <| i_dup <| i_getf 11 14 <| i_push (.int 1) <| i_iadd <| i_putI 11 14 <| i_mask [true, false] <| i_goto X 110
def bX11_next_149 (X : jX) : jK := i_mask [true, false] <| i_aload 0 <| i_aload 0 <| i_invV X 173 0 11 <| i_putI 11 16 <| i_aload 0 <| i_aload 0 <| i_getf 11 16 <| i_if_ge X 169 165
def bX11_next_165 (X : jX) : jK := i_mask [false, false] <| i_push (.int 5) <| i_mask [false, false] <| i_goto X 170
def bX11_next_169 (X : jX) : jK := i_mask [false, false] <| i_push (.int 1) <| i_mask [false, false] <| i_goto X 170
def bX11_next_170 (X : jX) : jK := i_mask [false, false] <| i_putI 11 15 <| i_mask [false, false] <| i_goto X 361
def bX11_next_176 (X : jX) : jK := i_mask [true, true] <| i_iload 1 <| i_invS X 172 1 <| i_if_eq X 289 183
def bX11_next_183 (X : jX) : jK := i_mask [true, false] <| i_aload 0 <| i_push (.int 0) <| i_putI 11 16 <| i_mask [true, false] <| i_goto X 188
def bX11_next_188 (X : jX) : jK := i_mask [true, false] <| i_aload 0 <| i_getf 11 14 <| i_aload 0 <| i_getf 11 4 <| i_cmp_ge X 264 199
def bX11_next_199 (X : jX) : jK := i_mask [true, false] <| i_aload 0 <| i_getf 11 3 <| i_aload 0 <| i_getf 11 14 <| i_bald <| i_invS X 172 1 <| i_if_eq X 264 214
def bX11_next_214 (X : jX) : jK := i_mask [true, false] <| i_aload 0 <| i_getf 11 14 <| i_aload 0 <| i_getf 11 13 <| i_isub <| i_push (.int 4) <| i_cmp_ge X 251 227
def bX11_next_227 (X : jX) : jK := i_mask [true, false] <| i_aload 0 <| i_push (.int 10) <| i_aload 0 <| i_getf 11 16 <| i_imul <| i_aload 0 <| i_getf 11 3 <| i_aload 0 <| i_getf 11 14 <| i_bald <| i_iadd <| i_push (.int 48) <| i_isub <| i_putI 11 16 <| i_mask [true, false] <| i_goto X 251
def bX11_next_251 (X : jX) : jK := i_mask [true, false] <| i_aload 0 <| i_dup <| i_getf 11 14 <| i_push (.int 1) <| i_iadd <| i_putI 11 14 <| i_mask [true, false] <| i_goto X 188
def bX11_next_264 (X : jX) : jK := i_mask [true, false] <| i_aload 0 <| i_aload 0 <| i_getf 11 14 <| i_aload 0 <| i_getf 11 13 <| i_isub <| i_push (.int 4) <| i_cmp_le X 282 278
def bX11_next_278 (X : jX) : jK := i_mask [false, false] <| i_push (.int 5) <| i_mask [false, false] <| i_goto X 283
def bX11_next_282 (X : jX) : jK := i_mask [false, false] <| i_push (.int 2) <| i_mask [false, false] <| i_goto X 283
def bX11_next_283 (X : jX) : jK := i_mask [false, false] <| i_putI 11 15 <| i_mask [false, false] <| i_goto X 361
def bX11_next_289 (X : jX) : jK := i_mask [true, true] <| i_aload 0 <| i_dup <| i_getf 11 14 <| i_push (.int 1) <| i_iadd <| i_putI 11 14 <| i_aload 0 <| i_iload 1 <| i_putI 11 16 <| i_aload 0 <| i_iload 1 <| i_push (.int 40) <| i_cmp_eq X 353 311
def bX11_next_311 (X : jX) : jK := i_mask [false, true] <| i_iload 1 <| i_push (.int 41) <| i_cmp_eq X 353 317
def bX11_next_317 (X : jX) : jK := i_mask [false, true] <| i_iload 1 <| i_push (.int 59) <| i_cmp_eq X 353 323
def bX11_next_323 (X : jX) : jK := i_mask [false, true] <| i_iload 1 <| i_push (.int 43) <| i_cmp_eq X 353 329
def bX11_next_329 (X : jX) : jK := i_mask [false, true] <| i_iload 1 <| i_push (.int 45) <| i_cmp_eq X 353 335
def bX11_next_335 (X : jX) : jK := i_mask [false, true] <| i_iload 1 <| i_push (.int 42) <| i_cmp_eq X 353 341
def bX11_next_341 (X : jX) : jK := i_mask [false, true] <| i_iload 1 <| i_push (.int 60) <| i_cmp_eq X 353 347
def bX11_next_347 (X : jX) : jK := i_mask [false, true] <| i_iload 1 <| i_push (.int 61) <| i_cmp_ne X 357 353
def bX11_next_353 (X : jX) : jK := i_mask [false, false] <| i_push (.int 3) <| i_mask [false, false] <| i_goto X 358
def bX11_next_357 (X : jX) : jK := i_mask [false, false] <| i_push (.int 5) <| i_mask [false, false] <| i_goto X 358
def bX11_next_358 (X : jX) : jK := i_mask [false, false] <| i_putI 11 15 <| i_mask [false, false] <| i_goto X 361
def bX11_next_361 (X : jX) : jK := i_mask [false, false] <| i_return X
def pX11_next : jX → Nat → jK := fun X => jpick [(0, bX11_next_0 X), (8, bX11_next_8 X), (19, bX11_next_19 X), (33, bX11_next_33 X), (47, bX11_next_47 X), (60, bX11_next_60 X), (79, bX11_next_79 X), (93, bX11_next_93 X), (110, bX11_next_110 X), (121, bX11_next_121 X), (136, bX11_next_136 X), (149, bX11_next_149 X), (165, bX11_next_165 X), (169, bX11_next_169 X), (170, bX11_next_170 X), (176, bX11_next_176 X), (183, bX11_next_183 X), (188, bX11_next_188 X), (199, bX11_next_199 X), (214, bX11_next_214 X), (227, bX11_next_227 X), (251, bX11_next_251 X), (264, bX11_next_264 X), (278, bX11_next_278 X), (282, bX11_next_282 X), (283, bX11_next_283 X), (289, bX11_next_289 X), (311, bX11_next_311 X), (317, bX11_next_317 X), (323, bX11_next_323 X), (329, bX11_next_329 X), (335, bX11_next_335 X), (341, bX11_next_341 X), (347, bX11_next_347 X), (353, bX11_next_353 X), (357, bX11_next_357 X), (358, bX11_next_358 X), (361, bX11_next_361 X)]
def mX11_next : jMt := (yX11_next, cX11_next, 2, none, pX11_next)
def bX11_faulty_0 (X : jX) : jK := i_mask [true] <| i_aload 0 <| i_getf 11 11 <| i_if_ge X 15 7
def bX11_faulty_7 (X : jX) : jK := i_mask [true] <| i_aload 0 <| i_aload 0 <| i_getf 11 13 <| i_putI 11 11 <| i_mask [false] <| i_goto X 15
def bX11_faulty_15 (X : jX) : jK := i_mask [false] <| i_return X
def pX11_faulty : jX → Nat → jK := fun X => jpick [(0, bX11_faulty_0 X), (7, bX11_faulty_7 X), (15, bX11_faulty_15 X)]
def mX11_faulty : jMt := (yX11_faulty, cX11_faulty, 1, none, pX11_faulty)
def bX11_isSign_0 (X : jX) : jK := i_mask [true, true] <| i_aload 0 <| i_getf 11 11 <| i_if_ge X 27 7
def bX11_isSign_7 (X : jX) : jK := i_mask [true, true] <| i_aload 0 <| i_getf 11 15 <| i_push (.int 3) <| i_cmp_ne X 27 15
def bX11_isSign_15 (X : jX) : jK := i_mask [true, true] <| i_aload 0 <| i_getf 11 16 <| i_iload 1 <| i_cmp_ne X 27 23
def bX11_isSign_23 (X : jX) : jK := i_mask [false, false] <| i_push (.int 1) <| i_mask [false, false] <| i_goto X 28
def bX11_isSign_27 (X : jX) : jK := i_mask [false, false] <| i_push (.int 0) <| i_mask [false, false] <| i_goto X 28
def bX11_isSign_28 (X : jX) : jK := i_mask [false, false] <| i_ireturn X
def pX11_isSign : jX → Nat → jK := fun X => jpick [(0, bX11_isSign_0 X), (7, bX11_isSign_7 X), (15, bX11_isSign_15 X), (23, bX11_isSign_23 X), (27, bX11_isSign_27 X), (28, bX11_isSign_28 X)]
def mX11_isSign : jMt := (yX11_isSign, cX11_isSign, 2, (some .boolean), pX11_isSign)
def bX11_isKey_0 (X : jX) : jK := i_mask [true, true] <| i_aload 0 <| i_getf 11 11 <| i_if_ge X 27 7
def bX11_isKey_7 (X : jX) : jK := i_mask [true, true] <| i_aload 0 <| i_getf 11 15 <| i_push (.int 1) <| i_cmp_ne X 27 15
def bX11_isKey_15 (X : jX) : jK := i_mask [true, true] <| i_aload 0 <| i_getf 11 16 <| i_iload 1 <| i_cmp_ne X 27 23
def bX11_isKey_23 (X : jX) : jK := i_mask [false, false] <| i_push (.int 1) <| i_mask [false, false] <| i_goto X 28
def bX11_isKey_27 (X : jX) : jK := i_mask [false, false] <| i_push (.int 0) <| i_mask [false, false] <| i_goto X 28
def bX11_isKey_28 (X : jX) : jK := i_mask [false, false] <| i_ireturn X
def pX11_isKey : jX → Nat → jK := fun X => jpick [(0, bX11_isKey_0 X), (7, bX11_isKey_7 X), (15, bX11_isKey_15 X), (23, bX11_isKey_23 X), (27, bX11_isKey_27 X), (28, bX11_isKey_28 X)]
def mX11_isKey : jMt := (yX11_isKey, cX11_isKey, 2, (some .boolean), pX11_isKey)
def bX11_addStep_0 (X : jX) : jK := i_mask [true, true, true] <| i_aload 0 <| i_getf 11 7 <| i_push (.int 1020) <| i_aload 0 <| i_getf 11 10 <| i_iadd <| i_iload 1 <| i_iast <| i_aload 0 <| i_getf 11 8 <| i_push (.int 1020) <| i_aload 0 <| i_getf 11 10 <| i_iadd <| i_iload 2 <| i_iast <| i_aload 0 <| i_dup <| i_getf 11 10 <| i_push (.int 1) <| i_iadd <| i_putI 11 10 <| i_return X
def pX11_addStep : jX → Nat → jK := fun X => jpick [(0, bX11_addStep_0 X)]
def mX11_addStep : jMt := (yX11_addStep, cX11_addStep, 3, none, pX11_addStep)
def bX11_opens_0 (X : jX) : jK := i_mask [true] <| i_aload 0 <| i_getf 11 12 <| i_push (.int 5) <| i_cmp_ne X 14 8
def bX11_opens_8 (X : jX) : jK := i_mask [true] <| i_aload 0 <| i_invV X 175 0 11 <| i_push (.int 0) <| i_ireturn X
def bX11_opens_14 (X : jX) : jK := i_mask [true] <| i_aload 0 <| i_dup <| i_getf 11 12 <| i_push (.int 1) <| i_iadd <| i_putI 11 12 <| i_aload 0 <| i_invV X 174 0 11 <| i_push (.int 1) <| i_ireturn X
def pX11_opens : jX → Nat → jK := fun X => jpick [(0, bX11_opens_0 X), (8, bX11_opens_8 X), (14, bX11_opens_14 X)]
def mX11_opens : jMt := (yX11_opens, cX11_opens, 1, (some .boolean), pX11_opens)
def bX11_either_0 (X : jX) : jK := i_mask [true] <| i_aload 0 <| i_invV X 181 0 11 <| i_mask [true] <| i_goto X 4
def bX11_either_4 (X : jX) : jK := i_mask [true] <| i_aload 0 <| i_push (.int 13) <| i_invV X 177 1 11 <| i_if_eq X 30 13
def bX11_either_13 (X : jX) : jK := i_mask [true] <| i_aload 0 <| i_invV X 174 0 11 <| i_aload 0 <| i_invV X 181 0 11 <| i_aload 0 <| i_push (.int 5) <| i_push (.int 0) <| i_invV X 178 2 11 <| i_mask [true] <| i_goto X 4
def bX11_either_30 (X : jX) : jK := i_mask [false] <| i_return X
def pX11_either : jX → Nat → jK := fun X => jpick [(0, bX11_either_0 X), (4, bX11_either_4 X), (13, bX11_either_13 X), (30, bX11_either_30 X)]
def mX11_either : jMt := (yX11_either, cX11_either, 1, none, pX11_either)
def bX11_all_0 (X : jX) : jK := i_mask [true] <| i_aload 0 <| i_invV X 182 0 11 <| i_mask [true] <| i_goto X 4
def bX11_all_4 (X : jX) : jK := i_mask [true] <| i_aload 0 <| i_push (.int 14) <| i_invV X 177 1 11 <| i_if_eq X 31 13
def bX11_all_13 (X : jX) : jK := i_mask [true] <| i_aload 0 <| i_invV X 174 0 11 <| i_aload 0 <| i_invV X 182 0 11 <| i_aload 0 <| i_push (.int 6) <| i_push (.int 0) <| i_invV X 178 2 11 <| i_mask [true] <| i_goto X 4
def bX11_all_31 (X : jX) : jK := i_mask [false] <| i_return X
def pX11_all : jX → Nat → jK := fun X => jpick [(0, bX11_all_0 X), (4, bX11_all_4 X), (13, bX11_all_13 X), (31, bX11_all_31 X)]
def mX11_all : jMt := (yX11_all, cX11_all, 1, none, pX11_all)
def bX11_denied_0 (X : jX) : jK := i_mask [true, false] <| i_aload 0 <| i_push (.int 15) <| i_invV X 177 1 11 <| i_if_eq X 38 9
def bX11_denied_9 (X : jX) : jK := i_mask [true, false] <| i_aload 0 <| i_invV X 179 0 11 <| i_if_ne X 17 16
def bX11_denied_16 (X : jX) : jK := i_mask [false, false] <| i_return X
def bX11_denied_17 (X : jX) : jK := i_mask [true, false] <| i_aload 0 <| i_invV X 182 0 11 <| i_aload 0 <| i_dup <| i_getf 11 12 <| i_push (.int 1) <| i_isub <| i_putI 11 12 <| i_aload 0 <| i_push (.int 3) <| i_push (.int 0) <| i_invV X 178 2 11 <| i_return X
def bX11_denied_38 (X : jX) : jK := i_mask [true, false] <| i_aload 0 <| i_invV X 183 0 11 <| i_aload 0 <| i_push (.int 60) <| i_invV X 176 1 11 <| i_if_ne X 61 51
def bX11_denied_51 (X : jX) : jK := i_mask [true, false] <| i_aload 0 <| i_push (.int 61) <| i_invV X 176 1 11 <| i_if_ne X 61 60
def bX11_denied_60 (X : jX) : jK := i_mask [false, false] <| i_return X
def bX11_denied_61 (X : jX) : jK := i_mask [true, false] <| i_aload 0 <| i_getf 11 16 <| i_istore 1 <| i_aload 0 <| i_invV X 174 0 11 <| i_aload 0 <| i_invV X 183 0 11 <| i_aload 0 <| i_iload 1 <| i_push (.int 0) <| i_invV X 178 2 11 <| i_return X
def pX11_denied : jX → Nat → jK := fun X => jpick [(0, bX11_denied_0 X), (9, bX11_denied_9 X), (16, bX11_denied_16 X), (17, bX11_denied_17 X), (38, bX11_denied_38 X), (51, bX11_denied_51 X), (60, bX11_denied_60 X), (61, bX11_denied_61 X)]
def mX11_denied : jMt := (yX11_denied, cX11_denied, 2, none, pX11_denied)
def bX11_sum_0 (X : jX) : jK := i_mask [true, false] <| i_aload 0 <| i_invV X 184 0 11 <| i_mask [true, false] <| i_goto X 4
def bX11_sum_4 (X : jX) : jK := i_mask [true, false] <| i_aload 0 <| i_push (.int 43) <| i_invV X 176 1 11 <| i_if_ne X 22 13
def bX11_sum_13 (X : jX) : jK := i_mask [true, false] <| i_aload 0 <| i_push (.int 45) <| i_invV X 176 1 11 <| i_if_eq X 44 22
def bX11_sum_22 (X : jX) : jK := i_mask [true, false] <| i_aload 0 <| i_getf 11 16 <| i_istore 1 <| i_aload 0 <| i_invV X 174 0 11 <| i_aload 0 <| i_invV X 184 0 11 <| i_aload 0 <| i_iload 1 <| i_push (.int 0) <| i_invV X 178 2 11 <| i_mask [true, false] <| i_goto X 4
def bX11_sum_44 (X : jX) : jK := i_mask [false, false] <| i_return X
def pX11_sum : jX → Nat → jK := fun X => jpick [(0, bX11_sum_0 X), (4, bX11_sum_4 X), (13, bX11_sum_13 X), (22, bX11_sum_22 X), (44, bX11_sum_44 X)]
def mX11_sum : jMt := (yX11_sum, cX11_sum, 2, none, pX11_sum)
def bX11_term_0 (X : jX) : jK := i_mask [true] <| i_aload 0 <| i_invV X 185 0 11 <| i_mask [true] <| i_goto X 4
def bX11_term_4 (X : jX) : jK := i_mask [true] <| i_aload 0 <| i_push (.int 42) <| i_invV X 176 1 11 <| i_if_eq X 31 13
def bX11_term_13 (X : jX) : jK := i_mask [true] <| i_aload 0 <| i_invV X 174 0 11 <| i_aload 0 <| i_invV X 185 0 11 <| i_aload 0 <| i_push (.int 42) <| i_push (.int 0) <| i_invV X 178 2 11 <| i_mask [true] <| i_goto X 4
def bX11_term_31 (X : jX) : jK := i_mask [false] <| i_return X
def pX11_term : jX → Nat → jK := fun X => jpick [(0, bX11_term_0 X), (4, bX11_term_4 X), (13, bX11_term_13 X), (31, bX11_term_31 X)]
def mX11_term : jMt := (yX11_term, cX11_term, 1, none, pX11_term)
def bX11_one_0 (X : jX) : jK := i_mask [true] <| i_aload 0 <| i_getf 11 11 <| i_if_lt X 8 7
def bX11_one_7 (X : jX) : jK := i_mask [false] <| i_return X
def bX11_one_8 (X : jX) : jK := i_mask [true] <| i_aload 0 <| i_getf 11 15 <| i_push (.int 2) <| i_cmp_ne X 32 16
def bX11_one_16 (X : jX) : jK := i_mask [true] <| i_aload 0 <| i_push (.int 1) <| i_aload 0 <| i_getf 11 16 <| i_invV X 178 2 11 <| i_aload 0 <| i_invV X 174 0 11 <| i_mask [false] <| i_goto X 161
def bX11_one_32 (X : jX) : jK := i_mask [true] <| i_aload 0 <| i_getf 11 15 <| i_push (.int 1) <| i_cmp_ne X 65 40
def bX11_one_40 (X : jX) : jK := i_mask [true] <| i_aload 0 <| i_getf 11 16 <| i_push (.int 6) <| i_cmp_ge X 65 49
def bX11_one_49 (X : jX) : jK := i_mask [true] <| i_aload 0 <| i_push (.int 2) <| i_aload 0 <| i_getf 11 16 <| i_invV X 178 2 11 <| i_aload 0 <| i_invV X 174 0 11 <| i_mask [false] <| i_goto X 161
def bX11_one_65 (X : jX) : jK := i_mask [true] <| i_aload 0 <| i_push (.int 45) <| i_invV X 176 1 11 <| i_if_eq X 105 74
def bX11_one_74 (X : jX) : jK := i_mask [true] <| i_aload 0 <| i_invV X 179 0 11 <| i_if_ne X 82 81
def bX11_one_81 (X : jX) : jK := i_mask [false] <| i_return X
def bX11_one_82 (X : jX) : jK := i_mask [true] <| i_aload 0 <| i_invV X 185 0 11 <| i_aload 0 <| i_dup <| i_getf 11 12 <| i_push (.int 1) <| i_isub <| i_putI 11 12 <| i_aload 0 <| i_push (.int 4) <| i_push (.int 0) <| i_invV X 178 2 11 <| i_mask [false] <| i_goto X 161
def bX11_one_105 (X : jX) : jK := i_mask [true] <| i_aload 0 <| i_push (.int 40) <| i_invV X 176 1 11 <| i_if_eq X 157 114
def bX11_one_114 (X : jX) : jK := i_mask [true] <| i_aload 0 <| i_invV X 179 0 11 <| i_if_ne X 122 121
def bX11_one_121 (X : jX) : jK := i_mask [false] <| i_return X
def bX11_one_122 (X : jX) : jK := i_mask [true] <| i_aload 0 <| i_invV X 180 0 11 <| i_aload 0 <| i_push (.int 41) <| i_invV X 176 1 11 <| i_if_ne X 140 135
def bX11_one_135 (X : jX) : jK := i_mask [true] <| i_aload 0 <| i_invV X 175 0 11 <| i_return X
def bX11_one_140 (X : jX) : jK := i_mask [true] <| i_aload 0 <| i_dup <| i_getf 11 12 <| i_push (.int 1) <| i_isub <| i_putI 11 12 <| i_aload 0 <| i_invV X 174 0 11 <| i_mask [false] <| i_goto X 161
def bX11_one_157 (X : jX) : jK := i_mask [true] <| i_aload 0 <| i_invV X 175 0 11 <| i_mask [false] <| i_goto X 161
def bX11_one_161 (X : jX) : jK := i_mask [false] <| i_return X
def pX11_one : jX → Nat → jK := fun X => jpick [(0, bX11_one_0 X), (7, bX11_one_7 X), (8, bX11_one_8 X), (16, bX11_one_16 X), (32, bX11_one_32 X), (40, bX11_one_40 X), (49, bX11_one_49 X), (65, bX11_one_65 X), (74, bX11_one_74 X), (81, bX11_one_81 X), (82, bX11_one_82 X), (105, bX11_one_105 X), (114, bX11_one_114 X), (121, bX11_one_121 X), (122, bX11_one_122 X), (135, bX11_one_135 X), (140, bX11_one_140 X), (157, bX11_one_157 X), (161, bX11_one_161 X)]
def mX11_one : jMt := (yX11_one, cX11_one, 1, none, pX11_one)
def bX11_rule_0 (X : jX) : jK := i_mask [true, true] <| i_aload 0 <| i_push (.int 10) <| i_iload 1 <| i_iadd <| i_invV X 177 1 11 <| i_if_ne X 16 11
def bX11_rule_11 (X : jX) : jK := i_mask [true, false] <| i_aload 0 <| i_invV X 175 0 11 <| i_return X
def bX11_rule_16 (X : jX) : jK := i_mask [true, true] <| i_aload 0 <| i_invV X 174 0 11 <| i_aload 0 <| i_invV X 180 0 11 <| i_aload 0 <| i_push (.int 59) <| i_invV X 176 1 11 <| i_if_ne X 38 33
def bX11_rule_33 (X : jX) : jK := i_mask [true, false] <| i_aload 0 <| i_invV X 175 0 11 <| i_return X
def bX11_rule_38 (X : jX) : jK := i_mask [true, true] <| i_aload 0 <| i_invV X 174 0 11 <| i_aload 0 <| i_getf 11 9 <| i_push (.int 18) <| i_iload 1 <| i_iadd <| i_aload 0 <| i_getf 11 10 <| i_iast <| i_return X
def pX11_rule : jX → Nat → jK := fun X => jpick [(0, bX11_rule_0 X), (11, bX11_rule_11 X), (16, bX11_rule_16 X), (33, bX11_rule_33 X), (38, bX11_rule_38 X)]
def mX11_rule : jMt := (yX11_rule, cX11_rule, 2, none, pX11_rule)
def bX11_text_0 (X : jX) : jK := i_mask [true, false] <| i_aload 0 <| i_getf 11 5 <| i_push (.int 6) <| i_cmp_ne X 12 9
def bX11_text_9 (X : jX) : jK := i_mask [false, false] <| i_push (.int (-4)) <| i_ireturn X
def bX11_text_12 (X : jX) : jK := i_mask [true, false] <| i_aload 0 <| i_push (.int 0) <| i_putI 11 14 <| i_aload 0 <| i_push (.int (-1)) <| i_putI 11 11 <| i_aload 0 <| i_push (.int 0) <| i_putI 11 12 <| i_aload 0 <| i_push (.int 0) <| i_putI 11 10 <| i_aload 0 <| i_invV X 174 0 11 <| i_push (.int 0) <| i_istore 1 <| i_mask [true, true] <| i_goto X 38
def bX11_text_38 (X : jX) : jK := i_mask [true, true] <| i_iload 1 <| i_push (.int 2) <| i_cmp_gt X 61 43
def bX11_text_43 (X : jX) : jK := i_mask [true, true] <| i_aload 0 <| i_getf 11 11 <| i_if_ge X 61 50
def bX11_text_50 (X : jX) : jK := i_mask [true, true] <| i_aload 0 <| i_iload 1 <| i_invV X 186 1 11 <| i_iinc 1 1 <| i_mask [true, true] <| i_goto X 38
def bX11_text_61 (X : jX) : jK := i_mask [true, false] <| i_aload 0 <| i_getf 11 11 <| i_if_ge X 80 68
def bX11_text_68 (X : jX) : jK := i_mask [true, false] <| i_aload 0 <| i_getf 11 15 <| i_push (.int 4) <| i_cmp_eq X 80 76
def bX11_text_76 (X : jX) : jK := i_mask [true, false] <| i_aload 0 <| i_invV X 175 0 11 <| i_mask [true, false] <| i_goto X 80
def bX11_text_80 (X : jX) : jK := i_mask [true, false] <| i_aload 0 <| i_push (.int 0) <| i_putI 11 4 <| i_aload 0 <| i_getf 11 11 <| i_if_lt X 100 92
def bX11_text_92 (X : jX) : jK := i_mask [true, false] <| i_push (.int (-100)) <| i_aload 0 <| i_getf 11 11 <| i_isub <| i_ireturn X
def bX11_text_100 (X : jX) : jK := i_mask [true, false] <| i_push (.int 0) <| i_istore 1 <| i_mask [true, true] <| i_goto X 102
def bX11_text_102 (X : jX) : jK := i_mask [true, true] <| i_iload 1 <| i_aload 0 <| i_getf 11 10 <| i_cmp_ge X 166 110
def bX11_text_110 (X : jX) : jK := i_mask [true, true] <| i_aload 0 <| i_getf 11 7 <| i_push (.int 170) <| i_aload 0 <| i_getf 11 5 <| i_imul <| i_iload 1 <| i_iadd <| i_aload 0 <| i_getf 11 7 <| i_push (.int 1020) <| i_iload 1 <| i_iadd <| i_iald <| i_iast <| i_aload 0 <| i_getf 11 8 <| i_push (.int 170) <| i_aload 0 <| i_getf 11 5 <| i_imul <| i_iload 1 <| i_iadd <| i_aload 0 <| i_getf 11 8 <| i_push (.int 1020) <| i_iload 1 <| i_iadd <| i_iald <| i_iast <| i_iinc 1 1 <| i_mask [true, true] <| i_goto X 102
def bX11_text_166 (X : jX) : jK := i_mask [true, false] <| i_push (.int 0) <| i_istore 1 <| i_mask [true, true] <| i_goto X 168
def bX11_text_168 (X : jX) : jK := i_mask [true, true] <| i_iload 1 <| i_push (.int 3) <| i_cmp_ge X 201 173
def bX11_text_173 (X : jX) : jK := i_mask [true, true] <| i_aload 0 <| i_getf 11 9 <| i_push (.int 3) <| i_aload 0 <| i_getf 11 5 <| i_imul <| i_iload 1 <| i_iadd <| i_aload 0 <| i_getf 11 9 <| i_push (.int 18) <| i_iload 1 <| i_iadd <| i_iald <| i_iast <| i_iinc 1 1 <| i_mask [true, true] <| i_goto X 168
def bX11_text_201 (X : jX) : jK := i_mask [true, false] <| i_aload 0 <| i_dup <| i_getf 11 5 <| i_push (.int 1) <| i_iadd <| i_putI 11 5 <| i_aload 0 <| i_getf 11 5 <| i_push (.int 1) <| i_isub <| i_ireturn X
def pX11_text : jX → Nat → jK := fun X => jpick [(0, bX11_text_0 X), (9, bX11_text_9 X), (12, bX11_text_12 X), (38, bX11_text_38 X), (43, bX11_text_43 X), (50, bX11_text_50 X), (61, bX11_text_61 X), (68, bX11_text_68 X), (76, bX11_text_76 X), (80, bX11_text_80 X), (92, bX11_text_92 X), (100, bX11_text_100 X), (102, bX11_text_102 X), (110, bX11_text_110 X), (166, bX11_text_166 X), (168, bX11_text_168 X), (173, bX11_text_173 X), (201, bX11_text_201 X)]
def mX11_text : jMt := (yX11_text, cX11_text, 2, (some .int), pX11_text)
def bX11_force_0 (X : jX) : jK := i_mask [true, true, false] <| i_iload 1 <| i_push (.int 0) <| i_aload 0 <| i_getf 11 5 <| i_push (.int 1) <| i_isub <| i_invS X 159 3 <| i_if_ne X 17 14
def bX11_force_14 (X : jX) : jK := i_mask [false, false, false] <| i_push (.int (-2)) <| i_ireturn X
def bX11_force_17 (X : jX) : jK := i_mask [true, true, false] <| i_aload 0 <| i_getf 11 6 <| i_istore 2 <| i_aload 0 <| i_iload 1 <| i_putI 11 6 <| i_iload 2 <| i_ireturn X
def pX11_force : jX → Nat → jK := fun X => jpick [(0, bX11_force_0 X), (14, bX11_force_14 X), (17, bX11_force_17 X)]
def mX11_force : jMt := (yX11_force, cX11_force, 3, (some .int), pX11_force)
def bX11_twoOf_0 (X : jX) : jK := i_mask [true, true, true] <| i_iload 0 <| i_sw X [(5, 60), (6, 74), (43, 110), (45, 114), (60, 88), (61, 99)] 118
def bX11_twoOf_60 (X : jX) : jK := i_mask [false, true, true] <| i_iload 1 <| i_if_ne X 68 64
def bX11_twoOf_64 (X : jX) : jK := i_mask [false, false, true] <| i_iload 2 <| i_if_eq X 72 68
def bX11_twoOf_68 (X : jX) : jK := i_mask [false, false, false] <| i_push (.int 1) <| i_mask [false, false, false] <| i_goto X 73
def bX11_twoOf_72 (X : jX) : jK := i_mask [false, false, false] <| i_push (.int 0) <| i_mask [false, false, false] <| i_goto X 73
def bX11_twoOf_73 (X : jX) : jK := i_mask [false, false, false] <| i_ireturn X
def bX11_twoOf_74 (X : jX) : jK := i_mask [false, true, true] <| i_iload 1 <| i_if_eq X 86 78
def bX11_twoOf_78 (X : jX) : jK := i_mask [false, false, true] <| i_iload 2 <| i_if_eq X 86 82
def bX11_twoOf_82 (X : jX) : jK := i_mask [false, false, false] <| i_push (.int 1) <| i_mask [false, false, false] <| i_goto X 87
def bX11_twoOf_86 (X : jX) : jK := i_mask [false, false, false] <| i_push (.int 0) <| i_mask [false, false, false] <| i_goto X 87
def bX11_twoOf_87 (X : jX) : jK := i_mask [false, false, false] <| i_ireturn X
def bX11_twoOf_88 (X : jX) : jK := i_mask [false, true, true] <| i_iload 1 <| i_iload 2 <| i_cmp_ge X 97 93
def bX11_twoOf_93 (X : jX) : jK := i_mask [false, false, false] <| i_push (.int 1) <| i_mask [false, false, false] <| i_goto X 98
def bX11_twoOf_97 (X : jX) : jK := i_mask [false, false, false] <| i_push (.int 0) <| i_mask [false, false, false] <| i_goto X 98
def bX11_twoOf_98 (X : jX) : jK := i_mask [false, false, false] <| i_ireturn X
def bX11_twoOf_99 (X : jX) : jK := i_mask [false, true, true] <| i_iload 1 <| i_iload 2 <| i_cmp_ne X 108 104
def bX11_twoOf_104 (X : jX) : jK := i_mask [false, false, false] <| i_push (.int 1) <| i_mask [false, false, false] <| i_goto X 109
def bX11_twoOf_108 (X : jX) : jK := i_mask [false, false, false] <| i_push (.int 0) <| i_mask [false, false, false] <| i_goto X 109
def bX11_twoOf_109 (X : jX) : jK := i_mask [false, false, false] <| i_ireturn X
def bX11_twoOf_110 (X : jX) : jK := i_mask [false, true, true] <| i_iload 1 <| i_iload 2 <| i_iadd <| i_ireturn X
def bX11_twoOf_114 (X : jX) : jK := i_mask [false, true, true] <| i_iload 1 <| i_iload 2 <| i_isub <| i_ireturn X
def bX11_twoOf_118 (X : jX) : jK := i_mask [false, true, true] <| i_iload 1 <| i_iload 2 <| i_imul <| i_ireturn X
def pX11_twoOf : jX → Nat → jK := fun X => jpick [(0, bX11_twoOf_0 X), (60, bX11_twoOf_60 X), (64, bX11_twoOf_64 X), (68, bX11_twoOf_68 X), (72, bX11_twoOf_72 X), (73, bX11_twoOf_73 X), (74, bX11_twoOf_74 X), (78, bX11_twoOf_78 X), (82, bX11_twoOf_82 X), (86, bX11_twoOf_86 X), (87, bX11_twoOf_87 X), (88, bX11_twoOf_88 X), (93, bX11_twoOf_93 X), (97, bX11_twoOf_97 X), (98, bX11_twoOf_98 X), (99, bX11_twoOf_99 X), (104, bX11_twoOf_104 X), (108, bX11_twoOf_108 X), (109, bX11_twoOf_109 X), (110, bX11_twoOf_110 X), (114, bX11_twoOf_114 X), (118, bX11_twoOf_118 X)]
def mX11_twoOf : jMt := (yX11_twoOf, cX11_twoOf, 3, (some .int), pX11_twoOf)
def bX11_gives_0 (X : jX) : jK := i_mask [true, true, false, false, false] <| i_aload 0 <| i_getf 11 6 <| i_if_ne X 74 7
def bX11_gives_7 (X : jX) : jK := i_mask [true, true, false, false, false] <| i_iload 1 <| i_if_ne X 53 11
def bX11_gives_11 (X : jX) : jK := i_mask [true, false, false, false, false] <| i_push (.int 95) <| i_aload 0 <| i_getf 11 18 <| i_push (.int 0) <| i_iald <| i_push (.int 4) <| i_imul <| i_isub <| i_aload 0 <| i_getf 11 18 <| i_push (.int 1) <| i_iald <| i_push (.int 2) <| i_imul <| i_iadd <| i_aload 0 <| i_getf 11 18 <| i_push (.int 2) <| i_iald <| i_push (.int 3) <| i_imul <| i_isub <| i_aload 0 <| i_getf 11 18 <| i_push (.int 4) <| i_iald <| i_push (.int 40) <| i_imul <| i_isub <| i_mask [false, false, false, false, false] <| i_goto X 73
def bX11_gives_53 (X : jX) : jK := i_mask [true, true, false, false, false] <| i_iload 1 <| i_push (.int 1) <| i_cmp_ne X 72 58
def bX11_gives_58 (X : jX) : jK := i_mask [true, false, false, false, false] <| i_push (.int 90) <| i_aload 0 <| i_getf 11 18 <| i_push (.int 0) <| i_iald <| i_push (.int 5) <| i_imul <| i_isub <| i_mask [false, false, false, false, false] <| i_goto X 73
def bX11_gives_72 (X : jX) : jK := i_mask [false, false, false, false, false] <| i_push (.int 1) <| i_mask [false, false, false, false, false] <| i_goto X 73
def bX11_gives_73 (X : jX) : jK := i_mask [false, false, false, false, false] <| i_ireturn X
def bX11_gives_74 (X : jX) : jK := i_mask [true, true, false, false, false] <| i_push (.int 0) <| i_istore 2 <| i_iload 1 <| i_if_ne X 84 80
def bX11_gives_80 (X : jX) : jK := i_mask [true, true, true, false, false] <| i_push (.int 0) <| i_mask [true, true, true, false, false] <| i_goto X 99
def bX11_gives_84 (X : jX) : jK := i_mask [true, true, true, false, false] <| i_aload 0 <| i_getf 11 9 <| i_push (.int 3) <| i_aload 0 <| i_getf 11 6 <| i_imul <| i_iload 1 <| i_iadd <| i_push (.int 1) <| i_isub <| i_iald <| i_mask [true, true, true, false, false] <| i_goto X 99
def bX11_gives_99 (X : jX) : jK := i_mask [true, true, true, false, false] <| i_istore 3 <| i_push (.int 170) <| i_aload 0 <| i_getf 11 6 <| i_imul <| i_iload 3 <| i_iadd <| i_istore 4 <| i_mask [true, true, true, false, true] <| i_goto X 112
def bX11_gives_112 (X : jX) : jK := i_mask [true, true, true, false, true] <| i_iload 4 <| i_push (.int 170) <| i_aload 0 <| i_getf 11 6 <| i_imul <| i_aload 0 <| i_getf 11 9 <| i_push (.int 3) <| i_aload 0 <| i_getf 11 6 <| i_imul <| i_iload 1 <| i_iadd <| i_iald <| i_iadd <| i_cmp_ge X 309 139
def bX11_gives_139 (X : jX) : jK := i_mask [true, true, true, false, true] <| i_aload 0 <| i_getf 11 7 <| i_iload 4 <| i_iald <| i_sw X [(1, 176), (2, 195), (3, 219), (4, 246)] 266
def bX11_gives_176 (X : jX) : jK := i_mask [true, true, true, false, true] <| i_aload 0 <| i_getf 11 17 <| i_iload 2 <| i_aload 0 <| i_getf 11 8 <| i_iload 4 <| i_iald <| i_iast <| i_iinc 2 1 <| i_mask [true, true, true, false, true] <| i_goto X 303
def bX11_gives_195 (X : jX) : jK := i_mask [true, true, true, false, true] <| i_aload 0 <| i_getf 11 17 <| i_iload 2 <| i_aload 0 <| i_getf 11 18 <| i_aload 0 <| i_getf 11 8 <| i_iload 4 <| i_iald <| i_iald <| i_iast <| i_iinc 2 1 <| i_mask [true, true, true, false, true] <| i_goto X 303
def bX11_gives_219 (X : jX) : jK := i_mask [true, true, true, false, true] <| i_aload 0 <| i_getf 11 17 <| i_iload 2 <| i_push (.int 1) <| i_isub <| i_aload 0 <| i_getf 11 17 <| i_iload 2 <| i_push (.int 1) <| i_isub <| i_iald <| i_if_ne X 241 237
def bX11_gives_237 (X : jX) : jK := i_mask [true, true, true, false, true] <| i_push (.int 1) <| i_mask [true, true, true, false, true] <| i_goto X 242
def bX11_gives_241 (X : jX) : jK := i_mask [true, true, true, false, true] <| i_push (.int 0) <| i_mask [true, true, true, false, true] <| i_goto X 242
def bX11_gives_242 (X : jX) : jK := i_mask [true, true, true, false, true] <| i_iast <| i_mask [true, true, true, false, true] <| i_goto X 303
def bX11_gives_246 (X : jX) : jK := i_mask [true, true, true, false, true] <| i_aload 0 <| i_getf 11 17 <| i_iload 2 <| i_push (.int 1) <| i_isub <| i_aload 0 <| i_getf 11 17 <| i_iload 2 <| i_push (.int 1) <| i_isub <| i_iald <| i_ineg <| i_iast <| i_mask [true, true, true, false, true] <| i_goto X 303
def bX11_gives_266 (X : jX) : jK := i_mask [true, true, true, false, true] <| i_aload 0 <| i_getf 11 17 <| i_iload 2 <| i_push (.int 2) <| i_isub <| i_aload 0 <| i_getf 11 7 <| i_iload 4 <| i_iald <| i_aload 0 <| i_getf 11 17 <| i_iload 2 <| i_push (.int 2) <| i_isub <| i_iald <| i_aload 0 <| i_getf 11 17 <| i_iload 2 <| i_push (.int 1) <| i_isub <| i_iald <| i_invS X 189 3 <| i_iast <| i_iinc 2 (-1) <| i_mask [true, true, true, false, true] <| i_goto X 303
def bX11_gives_303 (X : jX) : jK := i_mask [true, true, true, false, true] <| i_iinc 4 1 <| i_mask [true, true, true, false, true] <| i_goto X 112
def bX11_gives_309 (X : jX) : jK := i_mask [true, false, false, false, false] <| i_aload 0 <| i_getf 11 17 <| i_push (.int 0) <| i_iald <| i_ireturn X
def pX11_gives : jX → Nat → jK := fun X => jpick [(0, bX11_gives_0 X), (7, bX11_gives_7 X), (11, bX11_gives_11 X), (53, bX11_gives_53 X), (58, bX11_gives_58 X), (72, bX11_gives_72 X), (73, bX11_gives_73 X), (74, bX11_gives_74 X), (80, bX11_gives_80 X), (84, bX11_gives_84 X), (99, bX11_gives_99 X), (112, bX11_gives_112 X), (139, bX11_gives_139 X), (176, bX11_gives_176 X), (195, bX11_gives_195 X), (219, bX11_gives_219 X), (237, bX11_gives_237 X), (241, bX11_gives_241 X), (242, bX11_gives_242 X), (246, bX11_gives_246 X), (266, bX11_gives_266 X), (303, bX11_gives_303 X), (309, bX11_gives_309 X)]
def mX11_gives : jMt := (yX11_gives, cX11_gives, 5, (some .int), pX11_gives)
def bX11_says_0 (X : jX) : jK := i_mask [true, true, true, true] <| i_aload 0 <| i_getf 11 18 <| i_push (.int 0) <| i_aload 0 <| i_iload 2 <| i_invV X 168 1 11 <| i_iast <| i_aload 0 <| i_getf 11 18 <| i_push (.int 1) <| i_aload 0 <| i_getf 11 1 <| i_push (.int 2) <| i_iald <| i_iast <| i_aload 0 <| i_getf 11 18 <| i_push (.int 2) <| i_aload 0 <| i_getf 11 1 <| i_push (.int 3) <| i_iald <| i_iast <| i_aload 0 <| i_getf 11 18 <| i_push (.int 3) <| i_iload 3 <| i_iast <| i_aload 0 <| i_getf 11 18 <| i_push (.int 4) <| i_aload 0 <| i_getf 11 1 <| i_push (.int 4) <| i_iald <| i_iload 2 <| i_ishr <| i_push (.int 1) <| i_iand <| i_iast <| i_mask [true, true, true, false] <| i_goto X 58
def bX11_says_58 (X : jX) : jK := i_mask [true, true, true, false] <| i_aload 0 <| i_getf 11 18 <| i_push (.int 5) <| i_iload 2 <| i_iast <| i_iload 1 <| i_push (.int 2) <| i_cmp_ne X 84 70
def bX11_says_70 (X : jX) : jK := i_mask [true, true, false, false] <| i_aload 0 <| i_iload 1 <| i_invV X 190 1 11 <| i_push (.int 1) <| i_push (.int 6) <| i_invS X 160 3 <| i_mask [false, false, false, false] <| i_goto X 95
def bX11_says_84 (X : jX) : jK := i_mask [true, true, false, false] <| i_aload 0 <| i_iload 1 <| i_invV X 190 1 11 <| i_push (.int 0) <| i_push (.int 100) <| i_invS X 160 3 <| i_mask [false, false, false, false] <| i_goto X 95
def bX11_says_95 (X : jX) : jK := i_mask [false, false, false, false] <| i_ireturn X
def pX11_says : jX → Nat → jK := fun X => jpick [(0, bX11_says_0 X), (58, bX11_says_58 X), (70, bX11_says_70 X), (84, bX11_says_84 X), (95, bX11_says_95 X)]
def mX11_says : jMt := (yX11_says, cX11_says, 4, (some .int), pX11_says)
def bX11_asks_0 (X : jX) : jK := i_mask [true, true, true, true] <| i_iload 1 <| i_push (.int 0) <| i_push (.int 2) <| i_invS X 159 3 <| i_if_eq X 36 9
def bX11_asks_9 (X : jX) : jK := i_mask [true, true, true, true] <| i_aload 0 <| i_iload 2 <| i_invV X 167 1 11 <| i_if_eq X 36 17
def bX11_asks_17 (X : jX) : jK := i_mask [true, true, true, true] <| i_iload 3 <| i_push (.int 0) <| i_push (.int 5) <| i_invS X 159 3 <| i_if_eq X 36 26
def bX11_asks_26 (X : jX) : jK := i_mask [true, true, true, true] <| i_aload 0 <| i_iload 1 <| i_iload 2 <| i_iload 3 <| i_invV X 191 3 11 <| i_mask [false, false, false, false] <| i_goto X 38
def bX11_asks_36 (X : jX) : jK := i_mask [false, false, false, false] <| i_push (.int (-2)) <| i_mask [false, false, false, false] <| i_goto X 38
def bX11_asks_38 (X : jX) : jK := i_mask [false, false, false, false] <| i_ireturn X
def pX11_asks : jX → Nat → jK := fun X => jpick [(0, bX11_asks_0 X), (9, bX11_asks_9 X), (17, bX11_asks_17 X), (26, bX11_asks_26 X), (36, bX11_asks_36 X), (38, bX11_asks_38 X)]
def mX11_asks : jMt := (yX11_asks, cX11_asks, 4, (some .int), pX11_asks)
def bX11_isSaying_0 (X : jX) : jK := i_mask [true, true] <| i_iload 1 <| i_push (.int 0) <| i_aload 0 <| i_getf 11 21 <| i_push (.int 1) <| i_isub <| i_invS X 159 3 <| i_ireturn X
def pX11_isSaying : jX → Nat → jK := fun X => jpick [(0, bX11_isSaying_0 X)]
def mX11_isSaying : jMt := (yX11_isSaying, cX11_isSaying, 2, (some .boolean), pX11_isSaying)
def bX11_say_0 (X : jX) : jK := i_mask [true, true, true, true] <| i_iload 1 <| i_push (.int 0) <| i_push (.int 5) <| i_invS X 159 3 <| i_if_eq X 28 9
def bX11_say_9 (X : jX) : jK := i_mask [true, true, true, true] <| i_iload 2 <| i_push (.int 0) <| i_push (.int 5) <| i_invS X 159 3 <| i_if_eq X 28 18
def bX11_say_18 (X : jX) : jK := i_mask [true, true, true, true] <| i_iload 3 <| i_push (.int 0) <| i_push (.int 9) <| i_invS X 159 3 <| i_if_ne X 31 28
def bX11_say_28 (X : jX) : jK := i_mask [false, false, false, false] <| i_push (.int (-2)) <| i_ireturn X
def bX11_say_31 (X : jX) : jK := i_mask [true, true, true, true] <| i_aload 0 <| i_getf 11 21 <| i_push (.int 8) <| i_cmp_ne X 43 40
def bX11_say_40 (X : jX) : jK := i_mask [false, false, false, false] <| i_push (.int (-4)) <| i_ireturn X
def bX11_say_43 (X : jX) : jK := i_mask [true, true, true, true] <| i_aload 0 <| i_getf 11 22 <| i_aload 0 <| i_getf 11 21 <| i_iload 1 <| i_iast <| i_aload 0 <| i_getf 11 23 <| i_aload 0 <| i_getf 11 21 <| i_iload 2 <| i_iast <| i_aload 0 <| i_getf 11 24 <| i_aload 0 <| i_getf 11 21 <| i_iload 3 <| i_iast <| i_aload 0 <| i_dup <| i_getf 11 21 <| i_push (.int 1) <| i_iadd <| i_putI 11 21 <| i_aload 0 <| i_getf 11 21 <| i_push (.int 1) <| i_isub <| i_ireturn X
def pX11_say : jX → Nat → jK := fun X => jpick [(0, bX11_say_0 X), (9, bX11_say_9 X), (18, bX11_say_18 X), (28, bX11_say_28 X), (31, bX11_say_31 X), (40, bX11_say_40 X), (43, bX11_say_43 X)]
def mX11_say : jMt := (yX11_say, cX11_say, 4, (some .int), pX11_say)
def bX11_figured_0 (X : jX) : jK := i_mask [true, true, false, false] <| i_push (.int 100) <| i_istore 2 <| i_push (.int 0) <| i_istore 3 <| i_mask [true, true, true, true] <| i_goto X 5
def bX11_figured_5 (X : jX) : jK := i_mask [true, true, true, true] <| i_iload 3 <| i_iload 1 <| i_cmp_gt X 32 10
def bX11_figured_10 (X : jX) : jK := i_mask [true, true, true, true] <| i_iload 2 <| i_iload 0 <| i_push (.int 10) <| i_iadd <| i_push (.int 0) <| i_push (.int 100) <| i_invS X 160 3 <| i_imul <| i_push (.int 100) <| i_idiv <| i_istore 2 <| i_iinc 3 1 <| i_mask [true, true, true, true] <| i_goto X 5
def bX11_figured_32 (X : jX) : jK := i_mask [false, false, true, false] <| i_iload 2 <| i_ireturn X
def pX11_figured : jX → Nat → jK := fun X => jpick [(0, bX11_figured_0 X), (5, bX11_figured_5 X), (10, bX11_figured_10 X), (32, bX11_figured_32 X)]
def mX11_figured : jMt := (yX11_figured, cX11_figured, 4, (some .int), pX11_figured)
def bX11_likely_0 (X : jX) : jK := i_mask [true, true, true, false, false] <| i_aload 0 <| i_push (.int 0) <| i_iload 2 <| i_aload 0 <| i_getf 11 23 <| i_iload 1 <| i_iald <| i_invV X 191 3 11 <| i_istore 3 <| i_iload 3 <| i_push (.int 3) <| i_aload 0 <| i_getf 11 24 <| i_iload 1 <| i_iald <| i_imul <| i_iadd <| i_push (.int 0) <| i_push (.int 100) <| i_invS X 160 3 <| i_istore 4 <| i_aload 0 <| i_getf 11 22 <| i_iload 1 <| i_iald <| i_sw X [(1, 72), (2, 75), (3, 86), (4, 101), (5, 114)] 150
def bX11_likely_72 (X : jX) : jK := i_mask [false, false, false, false, true] <| i_iload 4 <| i_ireturn X
def bX11_likely_75 (X : jX) : jK := i_mask [true, true, false, true, false] <| i_iload 3 <| i_aload 0 <| i_getf 11 24 <| i_iload 1 <| i_iald <| i_invS X 195 2 <| i_ireturn X
def bX11_likely_86 (X : jX) : jK := i_mask [false, false, false, false, true] <| i_iload 4 <| i_push (.int 100) <| i_iload 4 <| i_isub <| i_iload 4 <| i_imul <| i_push (.int 100) <| i_idiv <| i_iadd <| i_ireturn X
def bX11_likely_101 (X : jX) : jK := i_mask [true, true, true, false, false] <| i_aload 0 <| i_push (.int 1) <| i_iload 2 <| i_aload 0 <| i_getf 11 23 <| i_iload 1 <| i_iald <| i_invV X 191 3 11 <| i_ireturn X
def bX11_likely_114 (X : jX) : jK := i_mask [true, true, true, false, false] <| i_aload 0 <| i_iload 2 <| i_invV X 168 1 11 <| i_push (.int 2) <| i_aload 0 <| i_getf 11 24 <| i_iload 1 <| i_iald <| i_imul <| i_cmp_gt X 135 130
def bX11_likely_130 (X : jX) : jK := i_mask [false, false, false, false, false] <| i_push (.int 100) <| i_mask [false, false, false, false, false] <| i_goto X 149
def bX11_likely_135 (X : jX) : jK := i_mask [true, true, true, false, false] <| i_aload 0 <| i_push (.int 1) <| i_iload 2 <| i_aload 0 <| i_getf 11 23 <| i_iload 1 <| i_iald <| i_invV X 191 3 11 <| i_push (.int 2) <| i_idiv <| i_mask [false, false, false, false, false] <| i_goto X 149
def bX11_likely_149 (X : jX) : jK := i_mask [false, false, false, false, false] <| i_ireturn X
def bX11_likely_150 (X : jX) : jK := i_mask [false, false, false, true, false] <| i_iload 3 <| i_ireturn X
def pX11_likely : jX → Nat → jK := fun X => jpick [(0, bX11_likely_0 X), (72, bX11_likely_72 X), (75, bX11_likely_75 X), (86, bX11_likely_86 X), (101, bX11_likely_101 X), (114, bX11_likely_114 X), (130, bX11_likely_130 X), (135, bX11_likely_135 X), (149, bX11_likely_149 X), (150, bX11_likely_150 X)]
def mX11_likely : jMt := (yX11_likely, cX11_likely, 5, (some .int), pX11_likely)
def bX11_takesIn_0 (X : jX) : jK := i_mask [true, true, true, false] <| i_aload 0 <| i_push (.int 2) <| i_iload 2 <| i_aload 0 <| i_getf 11 23 <| i_iload 1 <| i_iald <| i_invV X 191 3 11 <| i_istore 3 <| i_aload 0 <| i_getf 11 22 <| i_iload 1 <| i_iald <| i_sw X [(2, 48), (3, 59), (4, 67), (5, 63)] 67
def bX11_takesIn_48 (X : jX) : jK := i_mask [true, true, false, true] <| i_iload 3 <| i_aload 0 <| i_getf 11 24 <| i_iload 1 <| i_iald <| i_push (.int 3) <| i_idiv <| i_iadd <| i_ireturn X
def bX11_takesIn_59 (X : jX) : jK := i_mask [false, false, false, true] <| i_push (.int 2) <| i_iload 3 <| i_imul <| i_ireturn X
def bX11_takesIn_63 (X : jX) : jK := i_mask [false, false, false, true] <| i_iload 3 <| i_push (.int 1) <| i_iadd <| i_ireturn X
def bX11_takesIn_67 (X : jX) : jK := i_mask [false, false, false, true] <| i_iload 3 <| i_ireturn X
def pX11_takesIn : jX → Nat → jK := fun X => jpick [(0, bX11_takesIn_0 X), (48, bX11_takesIn_48 X), (59, bX11_takesIn_59 X), (63, bX11_takesIn_63 X), (67, bX11_takesIn_67 X)]
def mX11_takesIn : jMt := (yX11_takesIn, cX11_takesIn, 4, (some .int), pX11_takesIn)
def bX11_told_0 (X : jX) : jK := i_mask [true, true, true, true] <| i_aload 0 <| i_iload 1 <| i_invV X 193 1 11 <| i_if_ne X 11 8
def bX11_told_8 (X : jX) : jK := i_mask [false, false, false, false] <| i_push (.int (-5)) <| i_ireturn X
def bX11_told_11 (X : jX) : jK := i_mask [true, true, true, true] <| i_aload 0 <| i_iload 2 <| i_invV X 167 1 11 <| i_if_ne X 22 19
def bX11_told_19 (X : jX) : jK := i_mask [false, false, false, false] <| i_push (.int (-7)) <| i_ireturn X
def bX11_told_22 (X : jX) : jK := i_mask [true, true, true, true] <| i_iload 3 <| i_sw X [(0, 60), (1, 67), (2, 74), (3, 81), (4, 88), (5, 95)] 121
def bX11_told_60 (X : jX) : jK := i_mask [true, true, false, false] <| i_aload 0 <| i_getf 11 22 <| i_iload 1 <| i_iald <| i_ireturn X
def bX11_told_67 (X : jX) : jK := i_mask [true, true, false, false] <| i_aload 0 <| i_getf 11 23 <| i_iload 1 <| i_iald <| i_ireturn X
def bX11_told_74 (X : jX) : jK := i_mask [true, true, false, false] <| i_aload 0 <| i_getf 11 24 <| i_iload 1 <| i_iald <| i_ireturn X
def bX11_told_81 (X : jX) : jK := i_mask [true, true, true, false] <| i_aload 0 <| i_iload 1 <| i_iload 2 <| i_invV X 196 2 11 <| i_ireturn X
def bX11_told_88 (X : jX) : jK := i_mask [true, true, true, false] <| i_aload 0 <| i_iload 1 <| i_iload 2 <| i_invV X 197 2 11 <| i_ireturn X
def bX11_told_95 (X : jX) : jK := i_mask [true, true, false, false] <| i_aload 0 <| i_getf 11 22 <| i_iload 1 <| i_iald <| i_push (.int 4) <| i_cmp_eq X 115 105
def bX11_told_105 (X : jX) : jK := i_mask [true, true, false, false] <| i_aload 0 <| i_getf 11 22 <| i_iload 1 <| i_iald <| i_push (.int 5) <| i_cmp_ne X 119 115
def bX11_told_115 (X : jX) : jK := i_mask [false, false, false, false] <| i_push (.int 0) <| i_mask [false, false, false, false] <| i_goto X 120
def bX11_told_119 (X : jX) : jK := i_mask [false, false, false, false] <| i_push (.int 1) <| i_mask [false, false, false, false] <| i_goto X 120
def bX11_told_120 (X : jX) : jK := i_mask [false, false, false, false] <| i_ireturn X
def bX11_told_121 (X : jX) : jK := i_mask [false, false, false, false] <| i_push (.int (-7)) <| i_ireturn X
def pX11_told : jX → Nat → jK := fun X => jpick [(0, bX11_told_0 X), (8, bX11_told_8 X), (11, bX11_told_11 X), (19, bX11_told_19 X), (22, bX11_told_22 X), (60, bX11_told_60 X), (67, bX11_told_67 X), (74, bX11_told_74 X), (81, bX11_told_81 X), (88, bX11_told_88 X), (95, bX11_told_95 X), (105, bX11_told_105 X), (115, bX11_told_115 X), (119, bX11_told_119 X), (120, bX11_told_120 X), (121, bX11_told_121 X)]
def mX11_told : jMt := (yX11_told, cX11_told, 4, (some .int), pX11_told)
def bX11_worthOf_0 (X : jX) : jK := i_mask [true, false, false, false, false] <| i_push (.int 0) <| i_istore 1 <| i_aload 0 <| i_push (.int 0) <| i_putI 11 29 <| i_push (.int 0) <| i_istore 2 <| i_mask [true, true, true, false, false] <| i_goto X 9
def bX11_worthOf_9 (X : jX) : jK := i_mask [true, true, true, false, false] <| i_iload 2 <| i_push (.int 6) <| i_cmp_ge X 30 15
def bX11_worthOf_15 (X : jX) : jK := i_mask [true, true, true, false, false] <| i_aload 0 <| i_getf 11 30 <| i_iload 2 <| i_push (.long 1000000) <| i_last <| i_iinc 2 1 <| i_mask [true, true, true, false, false] <| i_goto X 9
def bX11_worthOf_30 (X : jX) : jK := i_mask [true, true, false, false, false] <| i_push (.int 0) <| i_istore 2 <| i_mask [true, true, true, false, false] <| i_goto X 32
def bX11_worthOf_32 (X : jX) : jK := i_mask [true, true, true, false, false] <| i_iload 2 <| i_aload 0 <| i_getf 11 25 <| i_cmp_ge X 168 40
def bX11_worthOf_40 (X : jX) : jK := i_mask [true, true, true, false, false] <| i_aload 0 <| i_getf 11 27 <| i_iload 2 <| i_push (.int (-1)) <| i_iast <| i_aload 0 <| i_getf 11 28 <| i_iload 2 <| i_push (.int 0) <| i_iast <| i_iload 1 <| i_aload 0 <| i_getf 11 1 <| i_push (.int 5) <| i_iald <| i_cmp_lt X 67 64
def bX11_worthOf_64 (X : jX) : jK := i_mask [true, true, true, false, false] <| i_mask [true, true, true, false, false] <| i_goto X 162
def bX11_worthOf_67 (X : jX) : jK := i_mask [true, true, true, false, false] <| i_aload 0 <| i_getf 11 26 <| i_iload 2 <| i_iald <| i_istore 3 <| i_aload 0 <| i_getf 11 27 <| i_iload 2 <| i_iload 1 <| i_iast <| i_aload 0 <| i_iload 3 <| i_iload 1 <| i_invV X 196 2 11 <| i_istore 4 <| i_iload 1 <| i_aload 0 <| i_iload 3 <| i_iload 1 <| i_invV X 197 2 11 <| i_iadd <| i_istore 1 <| i_iload 1 <| i_aload 0 <| i_getf 11 1 <| i_push (.int 5) <| i_iald <| i_cmp_le X 111 108
def bX11_worthOf_108 (X : jX) : jK := i_mask [true, true, true, false, false] <| i_mask [true, true, true, false, false] <| i_goto X 162
def bX11_worthOf_111 (X : jX) : jK := i_mask [true, true, true, true, true] <| i_aload 0 <| i_dup <| i_getf 11 29 <| i_push (.int 1) <| i_iadd <| i_putI 11 29 <| i_aload 0 <| i_getf 11 28 <| i_iload 2 <| i_iload 4 <| i_iast <| i_aload 0 <| i_getf 11 30 <| i_aload 0 <| i_getf 11 23 <| i_iload 3 <| i_iald <| i_aload 0 <| i_getf 11 30 <| i_aload 0 <| i_getf 11 23 <| i_iload 3 <| i_iald <| i_lald <| i_push (.int 100) <| i_iload 4 <| i_isub <| i_i2l <| i_lmul <| i_push (.long 100) <| i_ldiv <| i_last <| i_mask [true, true, true, false, false] <| i_goto X 162
def bX11_worthOf_162 (X : jX) : jK := i_mask [true, true, true, false, false] <| i_iinc 2 1 <| i_mask [true, true, true, false, false] <| i_goto X 32
def bX11_worthOf_168 (X : jX) : jK := i_mask [true, false, false, false, false] <| i_push (.long 0) <| i_lstore 2 <| i_push (.int 0) <| i_istore 4 <| i_mask [true, false, true, false, true] <| i_goto X 173
def bX11_worthOf_173 (X : jX) : jK := i_mask [true, false, true, false, true] <| i_iload 4 <| i_push (.int 6) <| i_cmp_ge X 209 180
def bX11_worthOf_180 (X : jX) : jK := i_mask [true, false, true, false, true] <| i_lload 2 <| i_push (.long 1000000) <| i_aload 0 <| i_getf 11 30 <| i_iload 4 <| i_lald <| i_lsub <| i_aload 0 <| i_getf 11 2 <| i_iload 4 <| i_iald <| i_i2l <| i_lmul <| i_ladd <| i_lstore 2 <| i_iinc 4 1 <| i_mask [true, false, true, false, true] <| i_goto X 173
def bX11_worthOf_209 (X : jX) : jK := i_mask [false, false, true, false, false] <| i_lload 2 <| i_lreturn X
def pX11_worthOf : jX → Nat → jK := fun X => jpick [(0, bX11_worthOf_0 X), (9, bX11_worthOf_9 X), (15, bX11_worthOf_15 X), (30, bX11_worthOf_30 X), (32, bX11_worthOf_32 X), (40, bX11_worthOf_40 X), (64, bX11_worthOf_64 X), (67, bX11_worthOf_67 X), (108, bX11_worthOf_108 X), (111, bX11_worthOf_111 X), (162, bX11_worthOf_162 X), (168, bX11_worthOf_168 X), (173, bX11_worthOf_173 X), (180, bX11_worthOf_180 X), (209, bX11_worthOf_209 X)]
def mX11_worthOf : jMt := (yX11_worthOf, cX11_worthOf, 5, (some .long), pX11_worthOf)
def bX11_theRow_0 (X : jX) : jK := i_mask [true, false] <| i_aload 0 <| i_aload 0 <| i_getf 11 21 <| i_putI 11 25 <| i_push (.int 0) <| i_istore 1 <| i_mask [true, true] <| i_goto X 10
def bX11_theRow_10 (X : jX) : jK := i_mask [true, true] <| i_iload 1 <| i_aload 0 <| i_getf 11 21 <| i_cmp_ge X 31 18
def bX11_theRow_18 (X : jX) : jK := i_mask [true, true] <| i_aload 0 <| i_getf 11 26 <| i_iload 1 <| i_iload 1 <| i_iast <| i_iinc 1 1 <| i_mask [true, true] <| i_goto X 10
def bX11_theRow_31 (X : jX) : jK := i_mask [false, false] <| i_return X
def pX11_theRow : jX → Nat → jK := fun X => jpick [(0, bX11_theRow_0 X), (10, bX11_theRow_10 X), (18, bX11_theRow_18 X), (31, bX11_theRow_31 X)]
def mX11_theRow : jMt := (yX11_theRow, cX11_theRow, 2, none, pX11_theRow)
def bX11_worthOfAll_0 (X : jX) : jK := i_mask [true] <| i_aload 0 <| i_invV X 200 0 11 <| i_aload 0 <| i_invV X 199 0 11 <| i_lreturn X
def pX11_worthOfAll : jX → Nat → jK := fun X => jpick [(0, bX11_worthOfAll_0 X)]
def mX11_worthOfAll : jMt := (yX11_worthOfAll, cX11_worthOfAll, 1, (some .long), pX11_worthOfAll)
def bX11_run_0 (X : jX) : jK := i_mask [true, true, false, false] <| i_iload 1 <| i_push (.int 0) <| i_push (.int 7) <| i_invS X 159 3 <| i_if_ne X 14 10
def bX11_run_10 (X : jX) : jK := i_mask [false, false, false, false] <| i_push (.long (-4611686018427387904)) <| i_lreturn X
def bX11_run_14 (X : jX) : jK := i_mask [true, true, false, false] <| i_aload 0 <| i_invV X 201 0 11 <| i_lstore 2 <| i_iload 1 <| i_if_ne X 27 23
def bX11_run_23 (X : jX) : jK := i_mask [false, false, true, false] <| i_lload 2 <| i_mask [false, false, false, false] <| i_goto X 52
def bX11_run_27 (X : jX) : jK := i_mask [true, true, false, false] <| i_iload 1 <| i_push (.int 1) <| i_cmp_ne X 40 32
def bX11_run_32 (X : jX) : jK := i_mask [true, false, false, false] <| i_aload 0 <| i_getf 11 29 <| i_i2l <| i_mask [false, false, false, false] <| i_goto X 52
def bX11_run_40 (X : jX) : jK := i_mask [true, true, false, false] <| i_push (.long 1000000) <| i_aload 0 <| i_getf 11 30 <| i_iload 1 <| i_push (.int 2) <| i_isub <| i_lald <| i_lsub <| i_mask [false, false, false, false] <| i_goto X 52
def bX11_run_52 (X : jX) : jK := i_mask [false, false, false, false] <| i_lreturn X
def pX11_run : jX → Nat → jK := fun X => jpick [(0, bX11_run_0 X), (10, bX11_run_10 X), (14, bX11_run_14 X), (23, bX11_run_23 X), (27, bX11_run_27 X), (32, bX11_run_32 X), (40, bX11_run_40 X), (52, bX11_run_52 X)]
def mX11_run : jMt := (yX11_run, cX11_run, 4, (some .long), pX11_run)
def bX11_minute_0 (X : jX) : jK := i_mask [true, true, true] <| i_aload 0 <| i_iload 1 <| i_invV X 193 1 11 <| i_if_ne X 11 8
def bX11_minute_8 (X : jX) : jK := i_mask [false, false, false] <| i_push (.int (-5)) <| i_ireturn X
def bX11_minute_11 (X : jX) : jK := i_mask [true, true, true] <| i_iload 2 <| i_push (.int 0) <| i_push (.int 1) <| i_invS X 159 3 <| i_if_ne X 23 20
def bX11_minute_20 (X : jX) : jK := i_mask [false, false, false] <| i_push (.int (-7)) <| i_ireturn X
def bX11_minute_23 (X : jX) : jK := i_mask [true, true, true] <| i_aload 0 <| i_invV X 201 0 11 <| i_pop2 <| i_iload 2 <| i_if_ne X 41 32
def bX11_minute_32 (X : jX) : jK := i_mask [true, true, false] <| i_aload 0 <| i_getf 11 27 <| i_iload 1 <| i_iald <| i_mask [false, false, false] <| i_goto X 47
def bX11_minute_41 (X : jX) : jK := i_mask [true, true, false] <| i_aload 0 <| i_getf 11 28 <| i_iload 1 <| i_iald <| i_mask [false, false, false] <| i_goto X 47
def bX11_minute_47 (X : jX) : jK := i_mask [false, false, false] <| i_ireturn X
def pX11_minute : jX → Nat → jK := fun X => jpick [(0, bX11_minute_0 X), (8, bX11_minute_8 X), (11, bX11_minute_11 X), (20, bX11_minute_20 X), (23, bX11_minute_23 X), (32, bX11_minute_32 X), (41, bX11_minute_41 X), (47, bX11_minute_47 X)]
def mX11_minute : jMt := (yX11_minute, cX11_minute, 3, (some .int), pX11_minute)
def bX11_judge_0 (X : jX) : jK := i_mask [true, true, false, false, false] <| i_iload 1 <| i_invS X 254 1 <| i_if_eq X 29 7
def bX11_judge_7 (X : jX) : jK := i_mask [true, true, false, false, false] <| i_aload 0 <| i_getf 11 53 <| i_iload 1 <| i_iald <| i_if_lt X 29 16
def bX11_judge_16 (X : jX) : jK := i_mask [true, true, false, false, false] <| i_aload 0 <| i_getf 11 54 <| i_iload 1 <| i_iald <| i_aload 0 <| i_getf 11 21 <| i_cmp_le X 33 29
def bX11_judge_29 (X : jX) : jK := i_mask [false, false, false, false, false] <| i_push (.long (-4611686018427387904)) <| i_lreturn X
def bX11_judge_33 (X : jX) : jK := i_mask [true, true, false, false, false] <| i_aload 0 <| i_aload 0 <| i_getf 11 54 <| i_iload 1 <| i_iald <| i_putI 11 25 <| i_push (.int 0) <| i_istore 2 <| i_push (.int 0) <| i_istore 3 <| i_mask [true, true, true, true, false] <| i_goto X 47
def bX11_judge_47 (X : jX) : jK := i_mask [true, true, true, true, false] <| i_iload 3 <| i_aload 0 <| i_getf 11 25 <| i_cmp_ge X 112 55
def bX11_judge_55 (X : jX) : jK := i_mask [true, true, true, true, false] <| i_aload 0 <| i_getf 11 55 <| i_push (.int 40) <| i_iload 1 <| i_imul <| i_iload 3 <| i_iadd <| i_iald <| i_istore 4 <| i_aload 0 <| i_iload 4 <| i_invV X 193 1 11 <| i_if_eq X 87 77
def bX11_judge_77 (X : jX) : jK := i_mask [true, true, true, true, true] <| i_iload 2 <| i_iload 4 <| i_ishr <| i_push (.int 1) <| i_iand <| i_push (.int 1) <| i_cmp_ne X 91 87
def bX11_judge_87 (X : jX) : jK := i_mask [false, false, false, false, false] <| i_push (.long (-4611686018427387904)) <| i_lreturn X
def bX11_judge_91 (X : jX) : jK := i_mask [true, true, true, true, true] <| i_iload 2 <| i_push (.int 1) <| i_iload 4 <| i_ishl <| i_ior <| i_istore 2 <| i_aload 0 <| i_getf 11 26 <| i_iload 3 <| i_iload 4 <| i_iast <| i_iinc 3 1 <| i_mask [true, true, true, true, false] <| i_goto X 47
def bX11_judge_112 (X : jX) : jK := i_mask [true, false, false, false, false] <| i_aload 0 <| i_invV X 199 0 11 <| i_lreturn X
def pX11_judge : jX → Nat → jK := fun X => jpick [(0, bX11_judge_0 X), (7, bX11_judge_7 X), (16, bX11_judge_16 X), (29, bX11_judge_29 X), (33, bX11_judge_33 X), (47, bX11_judge_47 X), (55, bX11_judge_55 X), (77, bX11_judge_77 X), (87, bX11_judge_87 X), (91, bX11_judge_91 X), (112, bX11_judge_112 X)]
def mX11_judge : jMt := (yX11_judge, cX11_judge, 5, (some .long), pX11_judge)
def bX11_keepRow_0 (X : jX) : jK := i_mask [true, true, false, false] <| i_aload 0 <| i_lload 1 <| i_putL 11 32 <| i_push (.int 0) <| i_istore 3 <| i_mask [true, false, false, true] <| i_goto X 7
def bX11_keepRow_7 (X : jX) : jK := i_mask [true, false, false, true] <| i_iload 3 <| i_aload 0 <| i_getf 11 25 <| i_cmp_ge X 33 15
def bX11_keepRow_15 (X : jX) : jK := i_mask [true, false, false, true] <| i_aload 0 <| i_getf 11 31 <| i_iload 3 <| i_aload 0 <| i_getf 11 26 <| i_iload 3 <| i_iald <| i_iast <| i_iinc 3 1 <| i_mask [true, false, false, true] <| i_goto X 7
def bX11_keepRow_33 (X : jX) : jK := i_mask [false, false, false, false] <| i_return X
def pX11_keepRow : jX → Nat → jK := fun X => jpick [(0, bX11_keepRow_0 X), (7, bX11_keepRow_7 X), (15, bX11_keepRow_15 X), (33, bX11_keepRow_33 X)]
def mX11_keepRow : jMt := (yX11_keepRow, cX11_keepRow, 4, none, pX11_keepRow)
def bX11_rowBy_0 (X : jX) : jK := i_mask [true, true, true, false, false, false] <| i_iload 1 <| i_istore 3 <| i_push (.int 0) <| i_istore 4 <| i_iload 2 <| i_push (.int 1) <| i_isub <| i_istore 5 <| i_mask [true, false, true, true, true, true] <| i_goto X 10
def bX11_rowBy_10 (X : jX) : jK := i_mask [true, false, true, true, true, true] <| i_iload 5 <| i_if_lt X 67 15
def bX11_rowBy_15 (X : jX) : jK := i_mask [true, false, true, true, true, true] <| i_aload 0 <| i_getf 11 26 <| i_iload 5 <| i_iload 3 <| i_iload 2 <| i_irem <| i_iast <| i_iload 3 <| i_iload 2 <| i_idiv <| i_istore 3 <| i_iload 4 <| i_aload 0 <| i_getf 11 26 <| i_iload 5 <| i_iald <| i_ishr <| i_push (.int 1) <| i_iand <| i_push (.int 1) <| i_cmp_ne X 47 45
def bX11_rowBy_45 (X : jX) : jK := i_mask [false, false, false, false, false, false] <| i_push (.int 0) <| i_ireturn X
def bX11_rowBy_47 (X : jX) : jK := i_mask [true, false, true, true, true, true] <| i_iload 4 <| i_push (.int 1) <| i_aload 0 <| i_getf 11 26 <| i_iload 5 <| i_iald <| i_ishl <| i_ior <| i_istore 4 <| i_iinc 5 (-1) <| i_mask [true, false, true, true, true, true] <| i_goto X 10
def bX11_rowBy_67 (X : jX) : jK := i_mask [false, false, false, false, false, false] <| i_push (.int 1) <| i_ireturn X
def pX11_rowBy : jX → Nat → jK := fun X => jpick [(0, bX11_rowBy_0 X), (10, bX11_rowBy_10 X), (15, bX11_rowBy_15 X), (45, bX11_rowBy_45 X), (47, bX11_rowBy_47 X), (67, bX11_rowBy_67 X)]
def mX11_rowBy : jMt := (yX11_rowBy, cX11_rowBy, 6, (some .boolean), pX11_rowBy)
def bX11_exchange_0 (X : jX) : jK := i_mask [true, true, true, false] <| i_aload 0 <| i_getf 11 26 <| i_iload 1 <| i_iald <| i_istore 3 <| i_aload 0 <| i_getf 11 26 <| i_iload 1 <| i_aload 0 <| i_getf 11 26 <| i_iload 2 <| i_iald <| i_iast <| i_aload 0 <| i_getf 11 26 <| i_iload 2 <| i_iload 3 <| i_iast <| i_return X
def pX11_exchange : jX → Nat → jK := fun X => jpick [(0, bX11_exchange_0 X)]
def mX11_exchange : jMt := (yX11_exchange, cX11_exchange, 4, none, pX11_exchange)
def bX11_findBest_0 (X : jX) : jK := i_mask [true, false, false, false, false, false, false, false, false, false] <| i_aload 0 <| i_aload 0 <| i_invV X 201 0 11 <| i_invV X 205 1 11 <| i_aload 0 <| i_getf 11 21 <| i_push (.int 5) <| i_cmp_gt X 103 16
def bX11_findBest_16 (X : jX) : jK := i_mask [true, false, false, false, false, false, false, false, false, false] <| i_push (.int 1) <| i_istore 1 <| i_push (.int 0) <| i_istore 2 <| i_mask [true, true, true, false, false, false, false, false, false, false] <| i_goto X 20
def bX11_findBest_20 (X : jX) : jK := i_mask [true, true, true, false, false, false, false, false, false, false] <| i_iload 2 <| i_aload 0 <| i_getf 11 21 <| i_cmp_ge X 41 28
def bX11_findBest_28 (X : jX) : jK := i_mask [true, true, true, false, false, false, false, false, false, false] <| i_iload 1 <| i_aload 0 <| i_getf 11 21 <| i_imul <| i_istore 1 <| i_iinc 2 1 <| i_mask [true, true, true, false, false, false, false, false, false, false] <| i_goto X 20
def bX11_findBest_41 (X : jX) : jK := i_mask [true, true, false, false, false, false, false, false, false, false] <| i_push (.int 0) <| i_istore 2 <| i_push (.int 0) <| i_istore 3 <| i_mask [true, true, true, true, false, false, false, false, false, false] <| i_goto X 45
def bX11_findBest_45 (X : jX) : jK := i_mask [true, true, true, true, false, false, false, false, false, false] <| i_iload 3 <| i_iload 1 <| i_cmp_ge X 102 50
def bX11_findBest_50 (X : jX) : jK := i_mask [true, true, true, true, false, false, false, false, false, false] <| i_aload 0 <| i_iload 3 <| i_aload 0 <| i_getf 11 21 <| i_invV X 206 2 11 <| i_if_ne X 65 62
def bX11_findBest_62 (X : jX) : jK := i_mask [true, true, true, true, false, false, false, false, false, false] <| i_mask [true, true, true, true, false, false, false, false, false, false] <| i_goto X 96
def bX11_findBest_65 (X : jX) : jK := i_mask [true, true, true, true, false, false, false, false, false, false] <| i_aload 0 <| i_invV X 199 0 11 <| i_lstore 4 <| i_iload 2 <| i_if_eq X 88 75
def bX11_findBest_75 (X : jX) : jK := i_mask [true, true, true, true, true, false, false, false, false, false] <| i_lload 4 <| i_aload 0 <| i_getf 11 32 <| i_lcmp <| i_if_gt X 88 85
def bX11_findBest_85 (X : jX) : jK := i_mask [true, true, true, true, false, false, false, false, false, false] <| i_mask [true, true, true, true, false, false, false, false, false, false] <| i_goto X 96
def bX11_findBest_88 (X : jX) : jK := i_mask [true, true, false, true, true, false, false, false, false, false] <| i_push (.int 1) <| i_istore 2 <| i_aload 0 <| i_lload 4 <| i_invV X 205 1 11 <| i_mask [true, true, true, true, false, false, false, false, false, false] <| i_goto X 96
def bX11_findBest_96 (X : jX) : jK := i_mask [true, true, true, true, false, false, false, false, false, false] <| i_iinc 3 1 <| i_mask [true, true, true, true, false, false, false, false, false, false] <| i_goto X 45
def bX11_findBest_102 (X : jX) : jK := i_mask [false, false, false, false, false, false, false, false, false, false] <| i_return X
def bX11_findBest_103 (X : jX) : jK := i_mask [true, false, false, false, false, false, false, false, false, false] <| i_push (.int 1) <| i_istore 1 <| i_mask [true, true, false, false, false, false, false, false, false, false] <| i_goto X 105
def bX11_findBest_105 (X : jX) : jK := i_mask [true, true, false, false, false, false, false, false, false, false] <| i_iload 1 <| i_if_eq X 227 109
def bX11_findBest_109 (X : jX) : jK := i_mask [true, false, false, false, false, false, false, false, false, false] <| i_push (.int 0) <| i_istore 1 <| i_push (.int 0) <| i_istore 2 <| i_push (.int 0) <| i_istore 3 <| i_aload 0 <| i_getf 11 32 <| i_lstore 4 <| i_push (.int 0) <| i_istore 6 <| i_mask [true, true, true, true, true, false, true, false, false, false] <| i_goto X 124
def bX11_findBest_124 (X : jX) : jK := i_mask [true, true, true, true, true, false, true, false, false, false] <| i_iload 6 <| i_aload 0 <| i_getf 11 25 <| i_cmp_ge X 205 133
def bX11_findBest_133 (X : jX) : jK := i_mask [true, true, true, true, true, false, true, false, false, false] <| i_iload 6 <| i_push (.int 1) <| i_iadd <| i_istore 7 <| i_mask [true, true, true, true, true, false, true, true, false, false] <| i_goto X 139
def bX11_findBest_139 (X : jX) : jK := i_mask [true, true, true, true, true, false, true, true, false, false] <| i_iload 7 <| i_aload 0 <| i_getf 11 25 <| i_cmp_ge X 199 148
def bX11_findBest_148 (X : jX) : jK := i_mask [true, true, true, true, true, false, true, true, false, false] <| i_aload 0 <| i_iload 6 <| i_iload 7 <| i_invV X 207 2 11 <| i_aload 0 <| i_invV X 199 0 11 <| i_lstore 8 <| i_aload 0 <| i_iload 6 <| i_iload 7 <| i_invV X 207 2 11 <| i_lload 8 <| i_lload 4 <| i_lcmp <| i_if_gt X 181 178
def bX11_findBest_178 (X : jX) : jK := i_mask [true, true, true, true, true, false, true, true, false, false] <| i_mask [true, true, true, true, true, false, true, true, false, false] <| i_goto X 193
def bX11_findBest_181 (X : jX) : jK := i_mask [true, false, false, false, false, false, true, true, true, false] <| i_lload 8 <| i_lstore 4 <| i_iload 6 <| i_istore 2 <| i_iload 7 <| i_istore 3 <| i_push (.int 1) <| i_istore 1 <| i_mask [true, true, true, true, true, false, true, true, false, false] <| i_goto X 193
def bX11_findBest_193 (X : jX) : jK := i_mask [true, true, true, true, true, false, true, true, false, false] <| i_iinc 7 1 <| i_mask [true, true, true, true, true, false, true, true, false, false] <| i_goto X 139
def bX11_findBest_199 (X : jX) : jK := i_mask [true, true, true, true, true, false, true, false, false, false] <| i_iinc 6 1 <| i_mask [true, true, true, true, true, false, true, false, false, false] <| i_goto X 124
def bX11_findBest_205 (X : jX) : jK := i_mask [true, true, true, true, true, false, false, false, false, false] <| i_iload 1 <| i_if_ne X 212 209
def bX11_findBest_209 (X : jX) : jK := i_mask [true, true, false, false, false, false, false, false, false, false] <| i_mask [true, true, false, false, false, false, false, false, false, false] <| i_goto X 105
def bX11_findBest_212 (X : jX) : jK := i_mask [true, true, true, true, true, false, false, false, false, false] <| i_aload 0 <| i_iload 2 <| i_iload 3 <| i_invV X 207 2 11 <| i_aload 0 <| i_lload 4 <| i_invV X 205 1 11 <| i_mask [true, true, false, false, false, false, false, false, false, false] <| i_goto X 105
def bX11_findBest_227 (X : jX) : jK := i_mask [false, false, false, false, false, false, false, false, false, false] <| i_return X
def pX11_findBest : jX → Nat → jK := fun X => jpick [(0, bX11_findBest_0 X), (16, bX11_findBest_16 X), (20, bX11_findBest_20 X), (28, bX11_findBest_28 X), (41, bX11_findBest_41 X), (45, bX11_findBest_45 X), (50, bX11_findBest_50 X), (62, bX11_findBest_62 X), (65, bX11_findBest_65 X), (75, bX11_findBest_75 X), (85, bX11_findBest_85 X), (88, bX11_findBest_88 X), (96, bX11_findBest_96 X), (102, bX11_findBest_102 X), (103, bX11_findBest_103 X), (105, bX11_findBest_105 X), (109, bX11_findBest_109 X), (124, bX11_findBest_124 X), (133, bX11_findBest_133 X), (139, bX11_findBest_139 X), (148, bX11_findBest_148 X), (178, bX11_findBest_178 X), (181, bX11_findBest_181 X), (193, bX11_findBest_193 X), (199, bX11_findBest_199 X), (205, bX11_findBest_205 X), (209, bX11_findBest_209 X), (212, bX11_findBest_212 X), (227, bX11_findBest_227 X)]
def mX11_findBest : jMt := (yX11_findBest, cX11_findBest, 10, none, pX11_findBest)
def bX11_best_0 (X : jX) : jK := i_mask [true, true, false, false, false, false, false] <| i_iload 1 <| i_push (.int 0) <| i_push (.int 2) <| i_invS X 159 3 <| i_if_ne X 13 9
def bX11_best_9 (X : jX) : jK := i_mask [false, false, false, false, false, false, false] <| i_push (.long (-4611686018427387904)) <| i_lreturn X
def bX11_best_13 (X : jX) : jK := i_mask [true, true, false, false, false, false, false] <| i_aload 0 <| i_invV X 201 0 11 <| i_lstore 2 <| i_aload 0 <| i_invV X 208 0 11 <| i_iload 1 <| i_if_le X 45 26
def bX11_best_26 (X : jX) : jK := i_mask [true, true, true, false, false, false, false] <| i_iload 1 <| i_push (.int 1) <| i_cmp_ne X 38 31
def bX11_best_31 (X : jX) : jK := i_mask [true, false, false, false, false, false, false] <| i_aload 0 <| i_getf 11 32 <| i_mask [false, false, false, false, false, false, false] <| i_goto X 44
def bX11_best_38 (X : jX) : jK := i_mask [true, false, true, false, false, false, false] <| i_aload 0 <| i_getf 11 32 <| i_lload 2 <| i_lsub <| i_mask [false, false, false, false, false, false, false] <| i_goto X 44
def bX11_best_44 (X : jX) : jK := i_mask [false, false, false, false, false, false, false] <| i_lreturn X
def bX11_best_45 (X : jX) : jK := i_mask [true, false, false, false, false, false, false] <| i_push (.long 0) <| i_lstore 4 <| i_push (.int 0) <| i_istore 6 <| i_mask [true, false, false, false, true, false, true] <| i_goto X 51
def bX11_best_51 (X : jX) : jK := i_mask [true, false, false, false, true, false, true] <| i_iload 6 <| i_aload 0 <| i_getf 11 21 <| i_cmp_ge X 85 60
def bX11_best_60 (X : jX) : jK := i_mask [true, false, false, false, true, false, true] <| i_push (.long 10) <| i_lload 4 <| i_lmul <| i_aload 0 <| i_getf 11 31 <| i_iload 6 <| i_iald <| i_i2l <| i_ladd <| i_push (.long 1) <| i_ladd <| i_lstore 4 <| i_iinc 6 1 <| i_mask [true, false, false, false, true, false, true] <| i_goto X 51
def bX11_best_85 (X : jX) : jK := i_mask [false, false, false, false, true, false, false] <| i_lload 4 <| i_lreturn X
def pX11_best : jX → Nat → jK := fun X => jpick [(0, bX11_best_0 X), (9, bX11_best_9 X), (13, bX11_best_13 X), (26, bX11_best_26 X), (31, bX11_best_31 X), (38, bX11_best_38 X), (44, bX11_best_44 X), (45, bX11_best_45 X), (51, bX11_best_51 X), (60, bX11_best_60 X), (85, bX11_best_85 X)]
def mX11_best : jMt := (yX11_best, cX11_best, 7, (some .long), pX11_best)
def bX11_side_0 (X : jX) : jK := i_mask [true, false, false, false, false, false, false, false] <| i_aload 0 <| i_getf 11 1 <| i_push (.int 0) <| i_iald <| i_istore 1 <| i_push (.int 0) <| i_istore 2 <| i_push (.long (-1)) <| i_lstore 3 <| i_push (.int 0) <| i_istore 5 <| i_mask [true, true, true, true, false, true, false, false] <| i_goto X 16
def bX11_side_16 (X : jX) : jK := i_mask [true, true, true, true, false, true, false, false] <| i_iload 5 <| i_push (.int 20) <| i_cmp_gt X 59 23
def bX11_side_23 (X : jX) : jK := i_mask [true, true, true, true, false, true, false, false] <| i_aload 0 <| i_getf 11 1 <| i_push (.int 0) <| i_iload 5 <| i_iast <| i_aload 0 <| i_invV X 201 0 11 <| i_lstore 6 <| i_lload 6 <| i_lload 3 <| i_lcmp <| i_if_gt X 47 44
def bX11_side_44 (X : jX) : jK := i_mask [true, true, true, true, false, true, false, false] <| i_mask [true, true, true, true, false, true, false, false] <| i_goto X 53
def bX11_side_47 (X : jX) : jK := i_mask [true, true, false, false, false, true, true, false] <| i_iload 5 <| i_istore 2 <| i_lload 6 <| i_lstore 3 <| i_mask [true, true, true, true, false, true, false, false] <| i_goto X 53
def bX11_side_53 (X : jX) : jK := i_mask [true, true, true, true, false, true, false, false] <| i_iinc 5 1 <| i_mask [true, true, true, true, false, true, false, false] <| i_goto X 16
def bX11_side_59 (X : jX) : jK := i_mask [true, true, true, false, false, false, false, false] <| i_aload 0 <| i_getf 11 1 <| i_push (.int 0) <| i_iload 1 <| i_iast <| i_iload 2 <| i_ireturn X
def pX11_side : jX → Nat → jK := fun X => jpick [(0, bX11_side_0 X), (16, bX11_side_16 X), (23, bX11_side_23 X), (44, bX11_side_44 X), (47, bX11_side_47 X), (53, bX11_side_53 X), (59, bX11_side_59 X)]
def mX11_side : jMt := (yX11_side, cX11_side, 8, (some .int), pX11_side)
def bX11_leave_0 (X : jX) : jK := i_mask [true, false, false, false, false, false, false] <| i_aload 0 <| i_invV X 201 0 11 <| i_lstore 1 <| i_push (.int (-1)) <| i_istore 3 <| i_push (.int 0) <| i_istore 4 <| i_mask [true, true, false, true, true, false, false] <| i_goto X 10
def bX11_leave_10 (X : jX) : jK := i_mask [true, true, false, true, true, false, false] <| i_iload 4 <| i_aload 0 <| i_getf 11 21 <| i_cmp_ge X 115 19
def bX11_leave_19 (X : jX) : jK := i_mask [true, true, false, true, true, false, false] <| i_aload 0 <| i_push (.int 0) <| i_putI 11 25 <| i_push (.int 0) <| i_istore 5 <| i_mask [true, true, false, true, true, true, false] <| i_goto X 27
def bX11_leave_27 (X : jX) : jK := i_mask [true, true, false, true, true, true, false] <| i_iload 5 <| i_aload 0 <| i_getf 11 21 <| i_cmp_ge X 73 36
def bX11_leave_36 (X : jX) : jK := i_mask [true, true, false, true, true, true, false] <| i_iload 5 <| i_iload 4 <| i_cmp_ne X 46 43
def bX11_leave_43 (X : jX) : jK := i_mask [true, true, false, true, true, true, false] <| i_mask [true, true, false, true, true, true, false] <| i_goto X 67
def bX11_leave_46 (X : jX) : jK := i_mask [true, true, false, true, true, true, false] <| i_aload 0 <| i_getf 11 26 <| i_aload 0 <| i_getf 11 25 <| i_iload 5 <| i_iast <| i_aload 0 <| i_dup <| i_getf 11 25 <| i_push (.int 1) <| i_iadd <| i_putI 11 25 <| i_mask [true, true, false, true, true, true, false] <| i_goto X 67
def bX11_leave_67 (X : jX) : jK := i_mask [true, true, false, true, true, true, false] <| i_iinc 5 1 <| i_mask [true, true, false, true, true, true, false] <| i_goto X 27
def bX11_leave_73 (X : jX) : jK := i_mask [true, true, false, true, true, false, false] <| i_aload 0 <| i_invV X 199 0 11 <| i_lstore 5 <| i_iload 3 <| i_if_ge X 93 83
def bX11_leave_83 (X : jX) : jK := i_mask [true, true, false, true, true, true, false] <| i_lload 5 <| i_lload 1 <| i_lcmp <| i_if_ge X 103 90
def bX11_leave_90 (X : jX) : jK := i_mask [true, true, false, true, true, false, false] <| i_mask [true, true, false, true, true, false, false] <| i_goto X 109
def bX11_leave_93 (X : jX) : jK := i_mask [true, true, false, true, true, true, false] <| i_lload 5 <| i_lload 1 <| i_lcmp <| i_if_gt X 103 100
def bX11_leave_100 (X : jX) : jK := i_mask [true, true, false, true, true, false, false] <| i_mask [true, true, false, true, true, false, false] <| i_goto X 109
def bX11_leave_103 (X : jX) : jK := i_mask [true, false, false, false, true, true, false] <| i_iload 4 <| i_istore 3 <| i_lload 5 <| i_lstore 1 <| i_mask [true, true, false, true, true, false, false] <| i_goto X 109
def bX11_leave_109 (X : jX) : jK := i_mask [true, true, false, true, true, false, false] <| i_iinc 4 1 <| i_mask [true, true, false, true, true, false, false] <| i_goto X 10
def bX11_leave_115 (X : jX) : jK := i_mask [false, false, false, true, false, false, false] <| i_iload 3 <| i_ireturn X
def pX11_leave : jX → Nat → jK := fun X => jpick [(0, bX11_leave_0 X), (10, bX11_leave_10 X), (19, bX11_leave_19 X), (27, bX11_leave_27 X), (36, bX11_leave_36 X), (43, bX11_leave_43 X), (46, bX11_leave_46 X), (67, bX11_leave_67 X), (73, bX11_leave_73 X), (83, bX11_leave_83 X), (90, bX11_leave_90 X), (93, bX11_leave_93 X), (100, bX11_leave_100 X), (103, bX11_leave_103 X), (109, bX11_leave_109 X), (115, bX11_leave_115 X)]
def mX11_leave : jMt := (yX11_leave, cX11_leave, 7, (some .int), pX11_leave)
def bX11_isWord_0 (X : jX) : jK := i_mask [true, true] <| i_iload 1 <| i_push (.int 0) <| i_aload 0 <| i_getf 11 33 <| i_push (.int 1) <| i_isub <| i_invS X 159 3 <| i_ireturn X
def pX11_isWord : jX → Nat → jK := fun X => jpick [(0, bX11_isWord_0 X)]
def mX11_isWord : jMt := (yX11_isWord, cX11_isWord, 2, (some .boolean), pX11_isWord)
def bX11_word_0 (X : jX) : jK := i_mask [true, true, true] <| i_iload 1 <| i_push (.int 0) <| i_push (.int 9999) <| i_invS X 159 3 <| i_if_eq X 21 11
def bX11_word_11 (X : jX) : jK := i_mask [true, true, true] <| i_iload 2 <| i_push (.int 0) <| i_push (.int 99) <| i_invS X 159 3 <| i_if_ne X 24 21
def bX11_word_21 (X : jX) : jK := i_mask [false, false, false] <| i_push (.int (-2)) <| i_ireturn X
def bX11_word_24 (X : jX) : jK := i_mask [true, true, true] <| i_aload 0 <| i_getf 11 33 <| i_push (.int 6) <| i_cmp_ne X 36 33
def bX11_word_33 (X : jX) : jK := i_mask [false, false, false] <| i_push (.int (-4)) <| i_ireturn X
def bX11_word_36 (X : jX) : jK := i_mask [true, true, true] <| i_aload 0 <| i_getf 11 34 <| i_aload 0 <| i_getf 11 33 <| i_iload 1 <| i_iast <| i_aload 0 <| i_getf 11 35 <| i_aload 0 <| i_getf 11 33 <| i_iload 2 <| i_iast <| i_aload 0 <| i_getf 11 36 <| i_push (.int 7) <| i_aload 0 <| i_getf 11 33 <| i_imul <| i_push (.int 10) <| i_iast <| i_aload 0 <| i_dup <| i_getf 11 33 <| i_push (.int 1) <| i_iadd <| i_putI 11 33 <| i_aload 0 <| i_getf 11 33 <| i_push (.int 1) <| i_isub <| i_ireturn X
def pX11_word : jX → Nat → jK := fun X => jpick [(0, bX11_word_0 X), (11, bX11_word_11 X), (21, bX11_word_21 X), (24, bX11_word_24 X), (33, bX11_word_33 X), (36, bX11_word_36 X)]
def mX11_word : jMt := (yX11_word, cX11_word, 3, (some .int), pX11_word)
def bX11_mistake_0 (X : jX) : jK := i_mask [true, true, true, true, false] <| i_aload 0 <| i_iload 1 <| i_invV X 212 1 11 <| i_if_eq X 16 8
def bX11_mistake_8 (X : jX) : jK := i_mask [true, true, true, true, false] <| i_aload 0 <| i_iload 2 <| i_invV X 212 1 11 <| i_if_ne X 18 16
def bX11_mistake_16 (X : jX) : jK := i_mask [false, false, false, false, false] <| i_push (.int (-1)) <| i_ireturn X
def bX11_mistake_18 (X : jX) : jK := i_mask [true, true, true, true, false] <| i_iload 3 <| i_push (.int 0) <| i_push (.int 99) <| i_invS X 159 3 <| i_if_ne X 31 28
def bX11_mistake_28 (X : jX) : jK := i_mask [false, false, false, false, false] <| i_push (.int (-2)) <| i_ireturn X
def bX11_mistake_31 (X : jX) : jK := i_mask [true, true, true, true, false] <| i_aload 0 <| i_getf 11 36 <| i_push (.int 6) <| i_iload 1 <| i_imul <| i_iload 2 <| i_iadd <| i_iald <| i_istore 4 <| i_aload 0 <| i_getf 11 36 <| i_push (.int 6) <| i_iload 1 <| i_imul <| i_iload 2 <| i_iadd <| i_iload 3 <| i_iast <| i_iload 4 <| i_ireturn X
def pX11_mistake : jX → Nat → jK := fun X => jpick [(0, bX11_mistake_0 X), (8, bX11_mistake_8 X), (16, bX11_mistake_16 X), (18, bX11_mistake_18 X), (28, bX11_mistake_28 X), (31, bX11_mistake_31 X)]
def mX11_mistake : jMt := (yX11_mistake, cX11_mistake, 5, (some .int), pX11_mistake)
def bX11_allTaken_0 (X : jX) : jK := i_mask [true, true, false, false, false] <| i_push (.long 0) <| i_lstore 2 <| i_push (.int 0) <| i_istore 4 <| i_mask [true, true, true, false, true] <| i_goto X 5
def bX11_allTaken_5 (X : jX) : jK := i_mask [true, true, true, false, true] <| i_iload 4 <| i_aload 0 <| i_getf 11 33 <| i_cmp_ge X 36 14
def bX11_allTaken_14 (X : jX) : jK := i_mask [true, true, true, false, true] <| i_lload 2 <| i_aload 0 <| i_getf 11 36 <| i_push (.int 6) <| i_iload 1 <| i_imul <| i_iload 4 <| i_iadd <| i_iald <| i_i2l <| i_ladd <| i_lstore 2 <| i_iinc 4 1 <| i_mask [true, true, true, false, true] <| i_goto X 5
def bX11_allTaken_36 (X : jX) : jK := i_mask [false, false, true, false, false] <| i_lload 2 <| i_push (.long 0) <| i_lcmp <| i_if_ne X 46 42
def bX11_allTaken_42 (X : jX) : jK := i_mask [false, false, false, false, false] <| i_push (.long 1) <| i_mask [false, false, false, false, false] <| i_goto X 47
def bX11_allTaken_46 (X : jX) : jK := i_mask [false, false, true, false, false] <| i_lload 2 <| i_mask [false, false, false, false, false] <| i_goto X 47
def bX11_allTaken_47 (X : jX) : jK := i_mask [false, false, false, false, false] <| i_lreturn X
def pX11_allTaken : jX → Nat → jK := fun X => jpick [(0, bX11_allTaken_0 X), (5, bX11_allTaken_5 X), (14, bX11_allTaken_14 X), (36, bX11_allTaken_36 X), (42, bX11_allTaken_42 X), (46, bX11_allTaken_46 X), (47, bX11_allTaken_47 X)]
def mX11_allTaken : jMt := (yX11_allTaken, cX11_allTaken, 5, (some .long), pX11_allTaken)
def bX11_counts_0 (X : jX) : jK := i_mask [true, true, true, false, false, false] <| i_aload 0 <| i_getf 11 35 <| i_iload 1 <| i_iald <| i_i2l <| i_aload 0 <| i_getf 11 36 <| i_push (.int 6) <| i_iload 1 <| i_imul <| i_iload 2 <| i_iadd <| i_iald <| i_i2l <| i_lmul <| i_lstore 3 <| i_push (.int 0) <| i_istore 5 <| i_mask [true, true, false, true, false, true] <| i_goto X 24
def bX11_counts_24 (X : jX) : jK := i_mask [true, true, false, true, false, true] <| i_iload 5 <| i_aload 0 <| i_getf 11 33 <| i_cmp_ge X 54 33
def bX11_counts_33 (X : jX) : jK := i_mask [true, true, false, true, false, true] <| i_iload 5 <| i_iload 1 <| i_cmp_eq X 48 39
def bX11_counts_39 (X : jX) : jK := i_mask [true, true, false, true, false, true] <| i_lload 3 <| i_aload 0 <| i_iload 5 <| i_invV X 215 1 11 <| i_lmul <| i_lstore 3 <| i_mask [true, true, false, true, false, true] <| i_goto X 48
def bX11_counts_48 (X : jX) : jK := i_mask [true, true, false, true, false, true] <| i_iinc 5 1 <| i_mask [true, true, false, true, false, true] <| i_goto X 24
def bX11_counts_54 (X : jX) : jK := i_mask [false, false, false, true, false, false] <| i_lload 3 <| i_lreturn X
def pX11_counts : jX → Nat → jK := fun X => jpick [(0, bX11_counts_0 X), (24, bX11_counts_24 X), (33, bX11_counts_33 X), (39, bX11_counts_39 X), (48, bX11_counts_48 X), (54, bX11_counts_54 X)]
def mX11_counts : jMt := (yX11_counts, cX11_counts, 6, (some .long), pX11_counts)
def bX11_common_0 (X : jX) : jK := i_mask [true, false, true, false, false, false, false, false, false, false] <| i_lload 0 <| i_push (.long 0) <| i_lcmp <| i_if_ge X 11 6
def bX11_common_6 (X : jX) : jK := i_mask [true, false, true, false, false, false, false, false, false, false] <| i_lload 0 <| i_lneg <| i_mask [false, false, true, false, false, false, false, false, false, false] <| i_goto X 12
def bX11_common_11 (X : jX) : jK := i_mask [true, false, true, false, false, false, false, false, false, false] <| i_lload 0 <| i_mask [false, false, true, false, false, false, false, false, false, false] <| i_goto X 12
def bX11_common_12 (X : jX) : jK := i_mask [false, false, true, false, false, false, false, false, false, false] <| i_lstore 4 <| i_lload 2 <| i_lstore 6 <| i_mask [false, false, false, false, true, false, true, false, false, false] <| i_goto X 17
def bX11_common_17 (X : jX) : jK := i_mask [false, false, false, false, true, false, true, false, false, false] <| i_lload 6 <| i_push (.long 0) <| i_lcmp <| i_if_eq X 42 24
def bX11_common_24 (X : jX) : jK := i_mask [false, false, false, false, true, false, true, false, false, false] <| i_lload 4 <| i_lload 6 <| i_lrem <| i_lstore 8 <| i_lload 6 <| i_lstore 4 <| i_lload 8 <| i_lstore 6 <| i_mask [false, false, false, false, true, false, true, false, false, false] <| i_goto X 17
def bX11_common_42 (X : jX) : jK := i_mask [false, false, false, false, true, false, false, false, false, false] <| i_lload 4 <| i_lreturn X
def pX11_common : jX → Nat → jK := fun X => jpick [(0, bX11_common_0 X), (6, bX11_common_6 X), (11, bX11_common_11 X), (12, bX11_common_12 X), (17, bX11_common_17 X), (24, bX11_common_24 X), (42, bX11_common_42 X)]
def mX11_common : jMt := (yX11_common, cX11_common, 10, (some .long), pX11_common)
def bX11_part_0 (X : jX) : jK := i_mask [true, false, true, false, true, false, false] <| i_lload 0 <| i_push (.long 0) <| i_lcmp <| i_if_eq X 12 6
def bX11_part_6 (X : jX) : jK := i_mask [true, false, true, false, true, false, false] <| i_lload 2 <| i_push (.long 0) <| i_lcmp <| i_if_ne X 23 12
def bX11_part_12 (X : jX) : jK := i_mask [false, false, false, false, true, false, false] <| i_iload 4 <| i_if_eq X 21 17
def bX11_part_17 (X : jX) : jK := i_mask [false, false, false, false, false, false, false] <| i_push (.long 0) <| i_mask [false, false, false, false, false, false, false] <| i_goto X 22
def bX11_part_21 (X : jX) : jK := i_mask [false, false, false, false, false, false, false] <| i_push (.long 1) <| i_mask [false, false, false, false, false, false, false] <| i_goto X 22
def bX11_part_22 (X : jX) : jK := i_mask [false, false, false, false, false, false, false] <| i_lreturn X
def bX11_part_23 (X : jX) : jK := i_mask [true, false, true, false, true, false, false] <| i_lload 0 <| i_lload 2 <| i_invS X 217 2 <| i_lstore 5 <| i_iload 4 <| i_if_eq X 42 35
def bX11_part_35 (X : jX) : jK := i_mask [true, false, false, false, false, true, false] <| i_lload 0 <| i_lload 5 <| i_ldiv <| i_mask [false, false, false, false, false, false, false] <| i_goto X 46
def bX11_part_42 (X : jX) : jK := i_mask [false, false, true, false, false, true, false] <| i_lload 2 <| i_lload 5 <| i_ldiv <| i_mask [false, false, false, false, false, false, false] <| i_goto X 46
def bX11_part_46 (X : jX) : jK := i_mask [false, false, false, false, false, false, false] <| i_lreturn X
def pX11_part : jX → Nat → jK := fun X => jpick [(0, bX11_part_0 X), (6, bX11_part_6 X), (12, bX11_part_12 X), (17, bX11_part_17 X), (21, bX11_part_21 X), (22, bX11_part_22 X), (23, bX11_part_23 X), (35, bX11_part_35 X), (42, bX11_part_42 X), (46, bX11_part_46 X)]
def mX11_part : jMt := (yX11_part, cX11_part, 7, (some .long), pX11_part)
def bX11_odds_0 (X : jX) : jK := i_mask [true, true, true, true, false, false, false] <| i_aload 0 <| i_iload 1 <| i_invV X 212 1 11 <| i_if_eq X 25 8
def bX11_odds_8 (X : jX) : jK := i_mask [true, true, true, true, false, false, false] <| i_aload 0 <| i_iload 2 <| i_invV X 212 1 11 <| i_if_eq X 25 16
def bX11_odds_16 (X : jX) : jK := i_mask [true, true, true, true, false, false, false] <| i_iload 3 <| i_push (.int 0) <| i_push (.int 1) <| i_invS X 159 3 <| i_if_ne X 29 25
def bX11_odds_25 (X : jX) : jK := i_mask [false, false, false, false, false, false, false] <| i_push (.long (-4611686018427387904)) <| i_lreturn X
def bX11_odds_29 (X : jX) : jK := i_mask [true, true, true, true, false, false, false] <| i_push (.long 0) <| i_lstore 4 <| i_push (.int 0) <| i_istore 6 <| i_mask [true, true, true, true, true, false, true] <| i_goto X 35
def bX11_odds_35 (X : jX) : jK := i_mask [true, true, true, true, true, false, true] <| i_iload 6 <| i_aload 0 <| i_getf 11 33 <| i_cmp_ge X 62 44
def bX11_odds_44 (X : jX) : jK := i_mask [true, true, true, true, true, false, true] <| i_lload 4 <| i_aload 0 <| i_iload 6 <| i_iload 1 <| i_invV X 216 2 11 <| i_ladd <| i_lstore 4 <| i_iinc 6 1 <| i_mask [true, true, true, true, true, false, true] <| i_goto X 35
def bX11_odds_62 (X : jX) : jK := i_mask [true, true, true, true, true, false, false] <| i_aload 0 <| i_iload 2 <| i_iload 1 <| i_invV X 216 2 11 <| i_lload 4 <| i_iload 3 <| i_if_ne X 78 74
def bX11_odds_74 (X : jX) : jK := i_mask [false, false, false, false, false, false, false] <| i_push (.int 1) <| i_mask [false, false, false, false, false, false, false] <| i_goto X 79
def bX11_odds_78 (X : jX) : jK := i_mask [false, false, false, false, false, false, false] <| i_push (.int 0) <| i_mask [false, false, false, false, false, false, false] <| i_goto X 79
def bX11_odds_79 (X : jX) : jK := i_mask [false, false, false, false, false, false, false] <| i_invS X 218 3 <| i_lreturn X
def pX11_odds : jX → Nat → jK := fun X => jpick [(0, bX11_odds_0 X), (8, bX11_odds_8 X), (16, bX11_odds_16 X), (25, bX11_odds_25 X), (29, bX11_odds_29 X), (35, bX11_odds_35 X), (44, bX11_odds_44 X), (62, bX11_odds_62 X), (74, bX11_odds_74 X), (78, bX11_odds_78 X), (79, bX11_odds_79 X)]
def mX11_odds : jMt := (yX11_odds, cX11_odds, 7, (some .long), pX11_odds)
def bX11_was_0 (X : jX) : jK := i_mask [true, true, false, false, false, false, false, false] <| i_aload 0 <| i_iload 1 <| i_invV X 212 1 11 <| i_if_ne X 11 8
def bX11_was_8 (X : jX) : jK := i_mask [false, false, false, false, false, false, false, false] <| i_push (.int (-5)) <| i_ireturn X
def bX11_was_11 (X : jX) : jK := i_mask [true, true, false, false, false, false, false, false] <| i_push (.int (-1)) <| i_istore 2 <| i_push (.long 0) <| i_lstore 3 <| i_push (.int 0) <| i_istore 5 <| i_mask [true, true, true, true, false, true, false, false] <| i_goto X 18
def bX11_was_18 (X : jX) : jK := i_mask [true, true, true, true, false, true, false, false] <| i_iload 5 <| i_aload 0 <| i_getf 11 33 <| i_cmp_ge X 58 27
def bX11_was_27 (X : jX) : jK := i_mask [true, true, true, true, false, true, false, false] <| i_aload 0 <| i_iload 5 <| i_iload 1 <| i_invV X 216 2 11 <| i_lstore 6 <| i_lload 6 <| i_lload 3 <| i_lcmp <| i_if_gt X 46 43
def bX11_was_43 (X : jX) : jK := i_mask [true, true, true, true, false, true, false, false] <| i_mask [true, true, true, true, false, true, false, false] <| i_goto X 52
def bX11_was_46 (X : jX) : jK := i_mask [true, true, false, false, false, true, true, false] <| i_iload 5 <| i_istore 2 <| i_lload 6 <| i_lstore 3 <| i_mask [true, true, true, true, false, true, false, false] <| i_goto X 52
def bX11_was_52 (X : jX) : jK := i_mask [true, true, true, true, false, true, false, false] <| i_iinc 5 1 <| i_mask [true, true, true, true, false, true, false, false] <| i_goto X 18
def bX11_was_58 (X : jX) : jK := i_mask [false, false, true, false, false, false, false, false] <| i_iload 2 <| i_ireturn X
def pX11_was : jX → Nat → jK := fun X => jpick [(0, bX11_was_0 X), (8, bX11_was_8 X), (11, bX11_was_11 X), (18, bX11_was_18 X), (27, bX11_was_27 X), (43, bX11_was_43 X), (46, bX11_was_46 X), (52, bX11_was_52 X), (58, bX11_was_58 X)]
def mX11_was : jMt := (yX11_was, cX11_was, 8, (some .int), pX11_was)
def bX11_list_0 (X : jX) : jK := i_mask [true, true, true, false, false, false, false, false, false] <| i_iload 1 <| i_push (.int 0) <| i_aload 0 <| i_getf 11 33 <| i_invS X 159 3 <| i_if_eq X 21 12
def bX11_list_12 (X : jX) : jK := i_mask [true, true, true, false, false, false, false, false, false] <| i_iload 2 <| i_push (.int 0) <| i_push (.int 1) <| i_invS X 159 3 <| i_if_ne X 24 21
def bX11_list_21 (X : jX) : jK := i_mask [false, false, false, false, false, false, false, false, false] <| i_push (.int (-2)) <| i_ireturn X
def bX11_list_24 (X : jX) : jK := i_mask [true, true, true, false, false, false, false, false, false] <| i_push (.int 0) <| i_istore 3 <| i_push (.int (-1)) <| i_istore 4 <| i_push (.int 0) <| i_istore 5 <| i_mask [true, true, true, true, true, true, false, false, false] <| i_goto X 32
def bX11_list_32 (X : jX) : jK := i_mask [true, true, true, true, true, true, false, false, false] <| i_iload 5 <| i_push (.int 1) <| i_aload 0 <| i_getf 11 33 <| i_ishl <| i_cmp_ge X 169 43
def bX11_list_43 (X : jX) : jK := i_mask [true, true, true, true, true, true, false, false, false] <| i_iload 5 <| i_invS X 162 1 <| i_iload 1 <| i_cmp_eq X 55 52
def bX11_list_52 (X : jX) : jK := i_mask [true, true, true, true, true, true, false, false, false] <| i_mask [true, true, true, true, true, true, false, false, false] <| i_goto X 163
def bX11_list_55 (X : jX) : jK := i_mask [true, true, true, true, true, true, false, false, false] <| i_push (.int 0) <| i_istore 6 <| i_push (.int 0) <| i_istore 7 <| i_mask [true, true, true, true, true, true, true, true, false] <| i_goto X 61
def bX11_list_61 (X : jX) : jK := i_mask [true, true, true, true, true, true, true, true, false] <| i_iload 7 <| i_aload 0 <| i_getf 11 33 <| i_cmp_ge X 141 70
def bX11_list_70 (X : jX) : jK := i_mask [true, true, true, true, true, true, true, true, false] <| i_push (.int 0) <| i_istore 8 <| i_mask [true, true, true, true, true, true, true, true, true] <| i_goto X 73
def bX11_list_73 (X : jX) : jK := i_mask [true, true, true, true, true, true, true, true, true] <| i_iload 8 <| i_aload 0 <| i_getf 11 33 <| i_cmp_ge X 135 82
def bX11_list_82 (X : jX) : jK := i_mask [true, true, true, true, true, true, true, true, true] <| i_iload 7 <| i_iload 8 <| i_cmp_eq X 129 89
def bX11_list_89 (X : jX) : jK := i_mask [true, true, true, true, true, true, true, true, true] <| i_iload 5 <| i_iload 7 <| i_ishr <| i_push (.int 1) <| i_iand <| i_push (.int 1) <| i_cmp_ne X 129 100
def bX11_list_100 (X : jX) : jK := i_mask [true, true, true, true, true, true, true, true, true] <| i_iload 5 <| i_iload 8 <| i_ishr <| i_push (.int 1) <| i_iand <| i_push (.int 1) <| i_cmp_ne X 129 111
def bX11_list_111 (X : jX) : jK := i_mask [true, true, true, true, true, true, true, true, true] <| i_iload 6 <| i_aload 0 <| i_getf 11 36 <| i_push (.int 6) <| i_iload 7 <| i_imul <| i_iload 8 <| i_iadd <| i_iald <| i_iadd <| i_istore 6 <| i_mask [true, true, true, true, true, true, true, true, true] <| i_goto X 129
def bX11_list_129 (X : jX) : jK := i_mask [true, true, true, true, true, true, true, true, true] <| i_iinc 8 1 <| i_mask [true, true, true, true, true, true, true, true, true] <| i_goto X 73
def bX11_list_135 (X : jX) : jK := i_mask [true, true, true, true, true, true, true, true, false] <| i_iinc 7 1 <| i_mask [true, true, true, true, true, true, true, true, false] <| i_goto X 61
def bX11_list_141 (X : jX) : jK := i_mask [true, true, true, true, true, true, true, false, false] <| i_iload 4 <| i_if_lt X 156 146
def bX11_list_146 (X : jX) : jK := i_mask [true, true, true, true, true, true, true, false, false] <| i_iload 6 <| i_iload 4 <| i_cmp_lt X 156 153
def bX11_list_153 (X : jX) : jK := i_mask [true, true, true, true, true, true, false, false, false] <| i_mask [true, true, true, true, true, true, false, false, false] <| i_goto X 163
def bX11_list_156 (X : jX) : jK := i_mask [true, true, true, false, false, true, true, false, false] <| i_iload 5 <| i_istore 3 <| i_iload 6 <| i_istore 4 <| i_mask [true, true, true, true, true, true, false, false, false] <| i_goto X 163
def bX11_list_163 (X : jX) : jK := i_mask [true, true, true, true, true, true, false, false, false] <| i_iinc 5 1 <| i_mask [true, true, true, true, true, true, false, false, false] <| i_goto X 32
def bX11_list_169 (X : jX) : jK := i_mask [false, false, true, true, true, false, false, false, false] <| i_iload 2 <| i_if_ne X 177 173
def bX11_list_173 (X : jX) : jK := i_mask [false, false, false, true, false, false, false, false, false] <| i_iload 3 <| i_mask [false, false, false, false, false, false, false, false, false] <| i_goto X 179
def bX11_list_177 (X : jX) : jK := i_mask [false, false, false, false, true, false, false, false, false] <| i_iload 4 <| i_mask [false, false, false, false, false, false, false, false, false] <| i_goto X 179
def bX11_list_179 (X : jX) : jK := i_mask [false, false, false, false, false, false, false, false, false] <| i_ireturn X
def pX11_list : jX → Nat → jK := fun X => jpick [(0, bX11_list_0 X), (12, bX11_list_12 X), (21, bX11_list_21 X), (24, bX11_list_24 X), (32, bX11_list_32 X), (43, bX11_list_43 X), (52, bX11_list_52 X), (55, bX11_list_55 X), (61, bX11_list_61 X), (70, bX11_list_70 X), (73, bX11_list_73 X), (82, bX11_list_82 X), (89, bX11_list_89 X), (100, bX11_list_100 X), (111, bX11_list_111 X), (129, bX11_list_129 X), (135, bX11_list_135 X), (141, bX11_list_141 X), (146, bX11_list_146 X), (153, bX11_list_153 X), (156, bX11_list_156 X), (163, bX11_list_163 X), (169, bX11_list_169 X), (173, bX11_list_173 X), (177, bX11_list_177 X), (179, bX11_list_179 X)]
def mX11_list : jMt := (yX11_list, cX11_list, 9, (some .int), pX11_list)
def bX11_figure_0 (X : jX) : jK := i_mask [true, true] <| i_iload 1 <| i_if_ne X 12 4
def bX11_figure_4 (X : jX) : jK := i_mask [true, false] <| i_iload 0 <| i_push (.int 1000) <| i_idiv <| i_mask [false, false] <| i_goto X 46
def bX11_figure_12 (X : jX) : jK := i_mask [true, true] <| i_iload 1 <| i_push (.int 1) <| i_cmp_ne X 27 17
def bX11_figure_17 (X : jX) : jK := i_mask [true, false] <| i_iload 0 <| i_push (.int 100) <| i_idiv <| i_push (.int 10) <| i_irem <| i_mask [false, false] <| i_goto X 46
def bX11_figure_27 (X : jX) : jK := i_mask [true, true] <| i_iload 1 <| i_push (.int 2) <| i_cmp_ne X 42 32
def bX11_figure_32 (X : jX) : jK := i_mask [true, false] <| i_iload 0 <| i_push (.int 10) <| i_idiv <| i_push (.int 10) <| i_irem <| i_mask [false, false] <| i_goto X 46
def bX11_figure_42 (X : jX) : jK := i_mask [true, false] <| i_iload 0 <| i_push (.int 10) <| i_irem <| i_mask [false, false] <| i_goto X 46
def bX11_figure_46 (X : jX) : jK := i_mask [false, false] <| i_ireturn X
def pX11_figure : jX → Nat → jK := fun X => jpick [(0, bX11_figure_0 X), (4, bX11_figure_4 X), (12, bX11_figure_12 X), (17, bX11_figure_17 X), (27, bX11_figure_27 X), (32, bX11_figure_32 X), (42, bX11_figure_42 X), (46, bX11_figure_46 X)]
def mX11_figure : jMt := (yX11_figure, cX11_figure, 2, (some .int), pX11_figure)
def bX11_fitting_0 (X : jX) : jK := i_mask [true, true, true, false, false, false, false] <| i_push (.int 0) <| i_istore 3 <| i_push (.int 0) <| i_istore 4 <| i_mask [true, true, true, true, true, false, false] <| i_goto X 5
def bX11_fitting_5 (X : jX) : jK := i_mask [true, true, true, true, true, false, false] <| i_iload 4 <| i_aload 0 <| i_getf 11 33 <| i_cmp_ge X 84 14
def bX11_fitting_14 (X : jX) : jK := i_mask [true, true, true, true, true, false, false] <| i_push (.int 1) <| i_istore 5 <| i_push (.int 0) <| i_istore 6 <| i_mask [true, true, true, true, true, true, true] <| i_goto X 20
def bX11_fitting_20 (X : jX) : jK := i_mask [true, true, true, true, true, true, true] <| i_iload 6 <| i_push (.int 4) <| i_cmp_ge X 66 26
def bX11_fitting_26 (X : jX) : jK := i_mask [true, true, true, true, true, true, true] <| i_iload 2 <| i_iload 6 <| i_ishr <| i_push (.int 1) <| i_iand <| i_push (.int 1) <| i_cmp_ne X 60 36
def bX11_fitting_36 (X : jX) : jK := i_mask [true, true, true, true, true, true, true] <| i_aload 0 <| i_getf 11 34 <| i_iload 4 <| i_iald <| i_iload 6 <| i_invS X 222 2 <| i_iload 1 <| i_iload 6 <| i_invS X 222 2 <| i_cmp_eq X 60 57
def bX11_fitting_57 (X : jX) : jK := i_mask [true, true, true, true, true, false, true] <| i_push (.int 0) <| i_istore 5 <| i_mask [true, true, true, true, true, true, true] <| i_goto X 60
def bX11_fitting_60 (X : jX) : jK := i_mask [true, true, true, true, true, true, true] <| i_iinc 6 1 <| i_mask [true, true, true, true, true, true, true] <| i_goto X 20
def bX11_fitting_66 (X : jX) : jK := i_mask [true, true, true, true, true, true, false] <| i_iload 5 <| i_if_eq X 78 71
def bX11_fitting_71 (X : jX) : jK := i_mask [true, true, true, true, true, false, false] <| i_iload 3 <| i_push (.int 1) <| i_iload 4 <| i_ishl <| i_ior <| i_istore 3 <| i_mask [true, true, true, true, true, false, false] <| i_goto X 78
def bX11_fitting_78 (X : jX) : jK := i_mask [true, true, true, true, true, false, false] <| i_iinc 4 1 <| i_mask [true, true, true, true, true, false, false] <| i_goto X 5
def bX11_fitting_84 (X : jX) : jK := i_mask [false, false, false, true, false, false, false] <| i_iload 3 <| i_ireturn X
def pX11_fitting : jX → Nat → jK := fun X => jpick [(0, bX11_fitting_0 X), (5, bX11_fitting_5 X), (14, bX11_fitting_14 X), (20, bX11_fitting_20 X), (26, bX11_fitting_26 X), (36, bX11_fitting_36 X), (57, bX11_fitting_57 X), (60, bX11_fitting_60 X), (66, bX11_fitting_66 X), (71, bX11_fitting_71 X), (78, bX11_fitting_78 X), (84, bX11_fitting_84 X)]
def mX11_fitting : jMt := (yX11_fitting, cX11_fitting, 7, (some .int), pX11_fitting)
def bX11_isHeard_0 (X : jX) : jK := i_mask [true, true] <| i_iload 0 <| i_push (.int 0) <| i_push (.int 9999) <| i_invS X 159 3 <| i_if_eq X 25 11
def bX11_isHeard_11 (X : jX) : jK := i_mask [false, true] <| i_iload 1 <| i_push (.int 0) <| i_push (.int 15) <| i_invS X 159 3 <| i_if_eq X 25 21
def bX11_isHeard_21 (X : jX) : jK := i_mask [false, false] <| i_push (.int 1) <| i_mask [false, false] <| i_goto X 26
def bX11_isHeard_25 (X : jX) : jK := i_mask [false, false] <| i_push (.int 0) <| i_mask [false, false] <| i_goto X 26
def bX11_isHeard_26 (X : jX) : jK := i_mask [false, false] <| i_ireturn X
def pX11_isHeard : jX → Nat → jK := fun X => jpick [(0, bX11_isHeard_0 X), (11, bX11_isHeard_11 X), (21, bX11_isHeard_21 X), (25, bX11_isHeard_25 X), (26, bX11_isHeard_26 X)]
def mX11_isHeard : jMt := (yX11_isHeard, cX11_isHeard, 2, (some .boolean), pX11_isHeard)
def bX11_bits_0 (X : jX) : jK := i_mask [true, true, true] <| i_iload 1 <| i_iload 2 <| i_invS X 224 2 <| i_if_eq X 17 8
def bX11_bits_8 (X : jX) : jK := i_mask [true, true, true] <| i_aload 0 <| i_iload 1 <| i_iload 2 <| i_invV X 223 2 11 <| i_mask [false, false, false] <| i_goto X 19
def bX11_bits_17 (X : jX) : jK := i_mask [false, false, false] <| i_push (.int (-2)) <| i_mask [false, false, false] <| i_goto X 19
def bX11_bits_19 (X : jX) : jK := i_mask [false, false, false] <| i_ireturn X
def pX11_bits : jX → Nat → jK := fun X => jpick [(0, bX11_bits_0 X), (8, bX11_bits_8 X), (17, bX11_bits_17 X), (19, bX11_bits_19 X)]
def mX11_bits : jMt := (yX11_bits, cX11_bits, 3, (some .int), pX11_bits)
def bX11_ask_0 (X : jX) : jK := i_mask [true, true, true, true, false, false, false, false, false, false, false, false] <| i_iload 1 <| i_iload 2 <| i_invS X 224 2 <| i_if_eq X 17 8
def bX11_ask_8 (X : jX) : jK := i_mask [true, true, true, true, false, false, false, false, false, false, false, false] <| i_iload 3 <| i_push (.int 0) <| i_push (.int 1) <| i_invS X 159 3 <| i_if_ne X 20 17
def bX11_ask_17 (X : jX) : jK := i_mask [false, false, false, false, false, false, false, false, false, false, false, false] <| i_push (.int (-2)) <| i_ireturn X
def bX11_ask_20 (X : jX) : jK := i_mask [true, true, true, true, false, false, false, false, false, false, false, false] <| i_aload 0 <| i_iload 1 <| i_iload 2 <| i_invV X 223 2 11 <| i_istore 4 <| i_push (.int (-1)) <| i_istore 5 <| i_push (.int 0) <| i_istore 6 <| i_push (.int 0) <| i_istore 7 <| i_mask [true, false, true, true, true, true, true, true, false, false, false, false] <| i_goto X 37
def bX11_ask_37 (X : jX) : jK := i_mask [true, false, true, true, true, true, true, true, false, false, false, false] <| i_iload 7 <| i_push (.int 4) <| i_cmp_ge X 174 43
def bX11_ask_43 (X : jX) : jK := i_mask [true, false, true, true, true, true, true, true, false, false, false, false] <| i_iload 2 <| i_iload 7 <| i_ishr <| i_push (.int 1) <| i_iand <| i_push (.int 1) <| i_cmp_ne X 56 53
def bX11_ask_53 (X : jX) : jK := i_mask [true, false, true, true, true, true, true, true, false, false, false, false] <| i_mask [true, false, true, true, true, true, true, true, false, false, false, false] <| i_goto X 168
def bX11_ask_56 (X : jX) : jK := i_mask [true, false, true, true, true, true, true, true, false, false, false, false] <| i_push (.int 0) <| i_istore 8 <| i_push (.int 0) <| i_istore 9 <| i_mask [true, false, true, true, true, true, true, true, true, true, false, false] <| i_goto X 62
def bX11_ask_62 (X : jX) : jK := i_mask [true, false, true, true, true, true, true, true, true, true, false, false] <| i_iload 9 <| i_push (.int 10) <| i_cmp_ge X 145 69
def bX11_ask_69 (X : jX) : jK := i_mask [true, false, true, true, true, true, true, true, true, true, false, false] <| i_push (.int 0) <| i_istore 10 <| i_push (.int 0) <| i_istore 11 <| i_mask [true, false, true, true, true, true, true, true, true, true, true, true] <| i_goto X 75
def bX11_ask_75 (X : jX) : jK := i_mask [true, false, true, true, true, true, true, true, true, true, true, true] <| i_iload 11 <| i_aload 0 <| i_getf 11 33 <| i_cmp_ge X 128 84
def bX11_ask_84 (X : jX) : jK := i_mask [true, false, true, true, true, true, true, true, true, true, true, true] <| i_iload 10 <| i_iload 4 <| i_iload 11 <| i_ishr <| i_push (.int 1) <| i_iand <| i_push (.int 1) <| i_cmp_ne X 118 97
def bX11_ask_97 (X : jX) : jK := i_mask [true, false, true, true, true, true, true, true, true, true, false, true] <| i_aload 0 <| i_getf 11 34 <| i_iload 11 <| i_iald <| i_iload 7 <| i_invS X 222 2 <| i_iload 9 <| i_cmp_ne X 118 114
def bX11_ask_114 (X : jX) : jK := i_mask [true, false, true, true, true, true, true, true, true, true, false, true] <| i_push (.int 1) <| i_mask [true, false, true, true, true, true, true, true, true, true, false, true] <| i_goto X 119
def bX11_ask_118 (X : jX) : jK := i_mask [true, false, true, true, true, true, true, true, true, true, false, true] <| i_push (.int 0) <| i_mask [true, false, true, true, true, true, true, true, true, true, false, true] <| i_goto X 119
def bX11_ask_119 (X : jX) : jK := i_mask [true, false, true, true, true, true, true, true, true, true, false, true] <| i_iadd <| i_istore 10 <| i_iinc 11 1 <| i_mask [true, false, true, true, true, true, true, true, true, true, true, true] <| i_goto X 75
def bX11_ask_128 (X : jX) : jK := i_mask [true, false, true, true, true, true, true, true, true, true, true, false] <| i_iload 10 <| i_iload 8 <| i_cmp_le X 139 135
def bX11_ask_135 (X : jX) : jK := i_mask [true, false, true, true, true, true, true, true, false, true, true, false] <| i_iload 10 <| i_istore 8 <| i_mask [true, false, true, true, true, true, true, true, true, true, false, false] <| i_goto X 139
def bX11_ask_139 (X : jX) : jK := i_mask [true, false, true, true, true, true, true, true, true, true, false, false] <| i_iinc 9 1 <| i_mask [true, false, true, true, true, true, true, true, true, true, false, false] <| i_goto X 62
def bX11_ask_145 (X : jX) : jK := i_mask [true, false, true, true, true, true, true, true, true, false, false, false] <| i_iload 5 <| i_if_lt X 160 150
def bX11_ask_150 (X : jX) : jK := i_mask [true, false, true, true, true, true, true, true, true, false, false, false] <| i_iload 8 <| i_iload 6 <| i_cmp_lt X 160 157
def bX11_ask_157 (X : jX) : jK := i_mask [true, false, true, true, true, true, true, true, false, false, false, false] <| i_mask [true, false, true, true, true, true, true, true, false, false, false, false] <| i_goto X 168
def bX11_ask_160 (X : jX) : jK := i_mask [true, false, true, true, true, false, false, true, true, false, false, false] <| i_iload 7 <| i_istore 5 <| i_iload 8 <| i_istore 6 <| i_mask [true, false, true, true, true, true, true, true, false, false, false, false] <| i_goto X 168
def bX11_ask_168 (X : jX) : jK := i_mask [true, false, true, true, true, true, true, true, false, false, false, false] <| i_iinc 7 1 <| i_mask [true, false, true, true, true, true, true, true, false, false, false, false] <| i_goto X 37
def bX11_ask_174 (X : jX) : jK := i_mask [false, false, false, true, false, true, true, false, false, false, false, false] <| i_iload 5 <| i_if_lt X 183 179
def bX11_ask_179 (X : jX) : jK := i_mask [false, false, false, true, false, true, true, false, false, false, false, false] <| i_iload 3 <| i_if_ne X 188 183
def bX11_ask_183 (X : jX) : jK := i_mask [false, false, false, false, false, true, false, false, false, false, false, false] <| i_iload 5 <| i_mask [false, false, false, false, false, false, false, false, false, false, false, false] <| i_goto X 190
def bX11_ask_188 (X : jX) : jK := i_mask [false, false, false, false, false, false, true, false, false, false, false, false] <| i_iload 6 <| i_mask [false, false, false, false, false, false, false, false, false, false, false, false] <| i_goto X 190
def bX11_ask_190 (X : jX) : jK := i_mask [false, false, false, false, false, false, false, false, false, false, false, false] <| i_ireturn X
def pX11_ask : jX → Nat → jK := fun X => jpick [(0, bX11_ask_0 X), (8, bX11_ask_8 X), (17, bX11_ask_17 X), (20, bX11_ask_20 X), (37, bX11_ask_37 X), (43, bX11_ask_43 X), (53, bX11_ask_53 X), (56, bX11_ask_56 X), (62, bX11_ask_62 X), (69, bX11_ask_69 X), (75, bX11_ask_75 X), (84, bX11_ask_84 X), (97, bX11_ask_97 X), (114, bX11_ask_114 X), (118, bX11_ask_118 X), (119, bX11_ask_119 X), (128, bX11_ask_128 X), (135, bX11_ask_135 X), (139, bX11_ask_139 X), (145, bX11_ask_145 X), (150, bX11_ask_150 X), (157, bX11_ask_157 X), (160, bX11_ask_160 X), (168, bX11_ask_168 X), (174, bX11_ask_174 X), (179, bX11_ask_179 X), (183, bX11_ask_183 X), (188, bX11_ask_188 X), (190, bX11_ask_190 X)]
def mX11_ask : jMt := (yX11_ask, cX11_ask, 12, (some .int), pX11_ask)
def bX11_clocks_0 (X : jX) : jK := i_mask [false, true, true, true, true, false, false, false, false] <| i_iload 1 <| i_push (.int (-9999)) <| i_push (.int 9999) <| i_invS X 159 3 <| i_if_eq X 60 13
def bX11_clocks_13 (X : jX) : jK := i_mask [false, true, true, true, true, false, false, false, false] <| i_iload 2 <| i_push (.int (-9999)) <| i_push (.int 9999) <| i_invS X 159 3 <| i_if_eq X 60 26
def bX11_clocks_26 (X : jX) : jK := i_mask [false, true, true, true, true, false, false, false, false] <| i_iload 3 <| i_if_lt X 60 30
def bX11_clocks_30 (X : jX) : jK := i_mask [false, true, true, true, true, false, false, false, false] <| i_iload 3 <| i_push (.int 100) <| i_idiv <| i_push (.int 1) <| i_push (.int 99) <| i_invS X 159 3 <| i_if_eq X 60 43
def bX11_clocks_43 (X : jX) : jK := i_mask [false, true, true, true, true, false, false, false, false] <| i_iload 3 <| i_push (.int 100) <| i_irem <| i_if_eq X 60 50
def bX11_clocks_50 (X : jX) : jK := i_mask [false, true, true, true, true, false, false, false, false] <| i_iload 4 <| i_push (.int 0) <| i_push (.int 3) <| i_invS X 159 3 <| i_if_ne X 64 60
def bX11_clocks_60 (X : jX) : jK := i_mask [false, false, false, false, false, false, false, false, false] <| i_push (.long (-4611686018427387904)) <| i_lreturn X
def bX11_clocks_64 (X : jX) : jK := i_mask [false, true, true, true, true, false, false, false, false] <| i_iload 3 <| i_push (.int 100) <| i_idiv <| i_i2l <| i_lstore 5 <| i_iload 3 <| i_push (.int 100) <| i_irem <| i_i2l <| i_lstore 7 <| i_iload 4 <| i_push (.int 2) <| i_cmp_ge X 116 84
def bX11_clocks_84 (X : jX) : jK := i_mask [false, true, true, false, true, true, false, true, false] <| i_iload 1 <| i_i2l <| i_lload 7 <| i_lmul <| i_iload 2 <| i_i2l <| i_lload 5 <| i_lmul <| i_ladd <| i_lload 5 <| i_lload 7 <| i_ladd <| i_iload 4 <| i_if_ne X 109 105
def bX11_clocks_105 (X : jX) : jK := i_mask [false, false, false, false, false, false, false, false, false] <| i_push (.int 1) <| i_mask [false, false, false, false, false, false, false, false, false] <| i_goto X 110
def bX11_clocks_109 (X : jX) : jK := i_mask [false, false, false, false, false, false, false, false, false] <| i_push (.int 0) <| i_mask [false, false, false, false, false, false, false, false, false] <| i_goto X 110
def bX11_clocks_110 (X : jX) : jK := i_mask [false, false, false, false, false, false, false, false, false] <| i_invS X 218 3 <| i_mask [false, false, false, false, false, false, false, false, false] <| i_goto X 140
def bX11_clocks_116 (X : jX) : jK := i_mask [false, false, false, false, true, true, false, true, false] <| i_lload 5 <| i_lload 7 <| i_lmul <| i_lload 5 <| i_lload 7 <| i_ladd <| i_iload 4 <| i_push (.int 2) <| i_cmp_ne X 136 132
def bX11_clocks_132 (X : jX) : jK := i_mask [false, false, false, false, false, false, false, false, false] <| i_push (.int 1) <| i_mask [false, false, false, false, false, false, false, false, false] <| i_goto X 137
def bX11_clocks_136 (X : jX) : jK := i_mask [false, false, false, false, false, false, false, false, false] <| i_push (.int 0) <| i_mask [false, false, false, false, false, false, false, false, false] <| i_goto X 137
def bX11_clocks_137 (X : jX) : jK := i_mask [false, false, false, false, false, false, false, false, false] <| i_invS X 218 3 <| i_mask [false, false, false, false, false, false, false, false, false] <| i_goto X 140
def bX11_clocks_140 (X : jX) : jK := i_mask [false, false, false, false, false, false, false, false, false] <| i_lreturn X
def pX11_clocks : jX → Nat → jK := fun X => jpick [(0, bX11_clocks_0 X), (13, bX11_clocks_13 X), (26, bX11_clocks_26 X), (30, bX11_clocks_30 X), (43, bX11_clocks_43 X), (50, bX11_clocks_50 X), (60, bX11_clocks_60 X), (64, bX11_clocks_64 X), (84, bX11_clocks_84 X), (105, bX11_clocks_105 X), (109, bX11_clocks_109 X), (110, bX11_clocks_110 X), (116, bX11_clocks_116 X), (132, bX11_clocks_132 X), (136, bX11_clocks_136 X), (137, bX11_clocks_137 X), (140, bX11_clocks_140 X)]
def mX11_clocks : jMt := (yX11_clocks, cX11_clocks, 9, (some .long), pX11_clocks)
def bX11_isReport_0 (X : jX) : jK := i_mask [true, true] <| i_iload 1 <| i_push (.int 0) <| i_aload 0 <| i_getf 11 37 <| i_push (.int 1) <| i_isub <| i_invS X 159 3 <| i_ireturn X
def pX11_isReport : jX → Nat → jK := fun X => jpick [(0, bX11_isReport_0 X)]
def mX11_isReport : jMt := (yX11_isReport, cX11_isReport, 2, (some .boolean), pX11_isReport)
def bX11_isShip_0 (X : jX) : jK := i_mask [true] <| i_iload 0 <| i_push (.int 0) <| i_push (.int 3) <| i_invS X 159 3 <| i_ireturn X
def pX11_isShip : jX → Nat → jK := fun X => jpick [(0, bX11_isShip_0 X)]
def mX11_isShip : jMt := (yX11_isShip, cX11_isShip, 1, (some .boolean), pX11_isShip)
def bX11_isDay_0 (X : jX) : jK := i_mask [true] <| i_iload 0 <| i_push (.int 0) <| i_push (.int 365) <| i_invS X 159 3 <| i_ireturn X
def pX11_isDay : jX → Nat → jK := fun X => jpick [(0, bX11_isDay_0 X)]
def mX11_isDay : jMt := (yX11_isDay, cX11_isDay, 1, (some .boolean), pX11_isDay)
def bX11_isSpeed_0 (X : jX) : jK := i_mask [true] <| i_iload 0 <| i_push (.int 0) <| i_push (.int 60) <| i_invS X 159 3 <| i_ireturn X
def pX11_isSpeed : jX → Nat → jK := fun X => jpick [(0, bX11_isSpeed_0 X)]
def mX11_isSpeed : jMt := (yX11_isSpeed, cX11_isSpeed, 1, (some .boolean), pX11_isSpeed)
def bX11_print_0 (X : jX) : jK := i_mask [true, true, true, true, true] <| i_iload 1 <| i_invS X 229 1 <| i_if_eq X 35 7
def bX11_print_7 (X : jX) : jK := i_mask [true, true, true, true, true] <| i_iload 2 <| i_invS X 230 1 <| i_if_eq X 35 14
def bX11_print_14 (X : jX) : jK := i_mask [true, true, true, true, true] <| i_iload 3 <| i_push (.int 0) <| i_push (.int 60) <| i_invS X 159 3 <| i_if_eq X 35 24
def bX11_print_24 (X : jX) : jK := i_mask [true, true, true, true, true] <| i_iload 4 <| i_push (.int 0) <| i_push (.int 9) <| i_invS X 159 3 <| i_if_ne X 38 35
def bX11_print_35 (X : jX) : jK := i_mask [false, false, false, false, false] <| i_push (.int (-2)) <| i_ireturn X
def bX11_print_38 (X : jX) : jK := i_mask [true, true, true, true, true] <| i_aload 0 <| i_getf 11 37 <| i_push (.int 10) <| i_cmp_ne X 50 47
def bX11_print_47 (X : jX) : jK := i_mask [false, false, false, false, false] <| i_push (.int (-4)) <| i_ireturn X
def bX11_print_50 (X : jX) : jK := i_mask [true, true, true, true, true] <| i_aload 0 <| i_getf 11 38 <| i_aload 0 <| i_getf 11 37 <| i_iload 1 <| i_iast <| i_aload 0 <| i_getf 11 39 <| i_aload 0 <| i_getf 11 37 <| i_iload 2 <| i_iast <| i_aload 0 <| i_getf 11 40 <| i_aload 0 <| i_getf 11 37 <| i_iload 3 <| i_iast <| i_aload 0 <| i_getf 11 41 <| i_aload 0 <| i_getf 11 37 <| i_iload 4 <| i_iast <| i_aload 0 <| i_dup <| i_getf 11 37 <| i_push (.int 1) <| i_iadd <| i_putI 11 37 <| i_aload 0 <| i_getf 11 37 <| i_push (.int 1) <| i_isub <| i_ireturn X
def pX11_print : jX → Nat → jK := fun X => jpick [(0, bX11_print_0 X), (7, bX11_print_7 X), (14, bX11_print_14 X), (24, bX11_print_24 X), (35, bX11_print_35 X), (38, bX11_print_38 X), (47, bX11_print_47 X), (50, bX11_print_50 X)]
def mX11_print : jMt := (yX11_print, cX11_print, 5, (some .int), pX11_print)
def bX11_printed_0 (X : jX) : jK := i_mask [true, true, true] <| i_aload 0 <| i_iload 1 <| i_invV X 228 1 11 <| i_if_ne X 11 8
def bX11_printed_8 (X : jX) : jK := i_mask [false, false, false] <| i_push (.int (-5)) <| i_ireturn X
def bX11_printed_11 (X : jX) : jK := i_mask [true, true, true] <| i_iload 2 <| i_sw X [(0, 44), (1, 51), (2, 58), (3, 65)] 72
def bX11_printed_44 (X : jX) : jK := i_mask [true, true, false] <| i_aload 0 <| i_getf 11 38 <| i_iload 1 <| i_iald <| i_ireturn X
def bX11_printed_51 (X : jX) : jK := i_mask [true, true, false] <| i_aload 0 <| i_getf 11 39 <| i_iload 1 <| i_iald <| i_ireturn X
def bX11_printed_58 (X : jX) : jK := i_mask [true, true, false] <| i_aload 0 <| i_getf 11 40 <| i_iload 1 <| i_iald <| i_ireturn X
def bX11_printed_65 (X : jX) : jK := i_mask [true, true, false] <| i_aload 0 <| i_getf 11 41 <| i_iload 1 <| i_iald <| i_ireturn X
def bX11_printed_72 (X : jX) : jK := i_mask [false, false, false] <| i_push (.int (-7)) <| i_ireturn X
def pX11_printed : jX → Nat → jK := fun X => jpick [(0, bX11_printed_0 X), (8, bX11_printed_8 X), (11, bX11_printed_11 X), (44, bX11_printed_44 X), (51, bX11_printed_51 X), (58, bX11_printed_58 X), (65, bX11_printed_65 X), (72, bX11_printed_72 X)]
def mX11_printed : jMt := (yX11_printed, cX11_printed, 3, (some .int), pX11_printed)
def bX11_meetingOf_0 (X : jX) : jK := i_mask [true, true, false, false, false, false, false] <| i_push (.int 1) <| i_iload 1 <| i_ishl <| i_istore 2 <| i_push (.int 1) <| i_istore 3 <| i_mask [true, false, true, true, false, false, false] <| i_goto X 6
def bX11_meetingOf_6 (X : jX) : jK := i_mask [true, false, true, true, false, false, false] <| i_iload 3 <| i_if_eq X 149 10
def bX11_meetingOf_10 (X : jX) : jK := i_mask [true, false, true, false, false, false, false] <| i_iload 2 <| i_istore 4 <| i_push (.int 0) <| i_istore 5 <| i_mask [true, false, true, false, true, true, false] <| i_goto X 16
def bX11_meetingOf_16 (X : jX) : jK := i_mask [true, false, true, false, true, true, false] <| i_iload 5 <| i_aload 0 <| i_getf 11 37 <| i_cmp_ge X 131 25
def bX11_meetingOf_25 (X : jX) : jK := i_mask [true, false, true, false, true, true, false] <| i_iload 2 <| i_iload 5 <| i_ishr <| i_push (.int 1) <| i_iand <| i_if_ne X 37 34
def bX11_meetingOf_34 (X : jX) : jK := i_mask [true, false, true, false, true, true, false] <| i_mask [true, false, true, false, true, true, false] <| i_goto X 125
def bX11_meetingOf_37 (X : jX) : jK := i_mask [true, false, true, false, true, true, false] <| i_push (.int 0) <| i_istore 6 <| i_mask [true, false, true, false, true, true, true] <| i_goto X 40
def bX11_meetingOf_40 (X : jX) : jK := i_mask [true, false, true, false, true, true, true] <| i_iload 6 <| i_aload 0 <| i_getf 11 37 <| i_cmp_ge X 125 49
def bX11_meetingOf_49 (X : jX) : jK := i_mask [true, false, true, false, true, true, true] <| i_aload 0 <| i_getf 11 38 <| i_iload 5 <| i_iald <| i_aload 0 <| i_getf 11 38 <| i_iload 6 <| i_iald <| i_cmp_ne X 119 66
def bX11_meetingOf_66 (X : jX) : jK := i_mask [true, false, true, false, true, true, true] <| i_aload 0 <| i_getf 11 39 <| i_iload 5 <| i_iald <| i_aload 0 <| i_getf 11 39 <| i_iload 6 <| i_iald <| i_isub <| i_invS X 161 1 <| i_push (.int 1) <| i_cmp_gt X 119 88
def bX11_meetingOf_88 (X : jX) : jK := i_mask [true, false, true, false, true, true, true] <| i_aload 0 <| i_getf 11 40 <| i_iload 5 <| i_iald <| i_aload 0 <| i_getf 11 40 <| i_iload 6 <| i_iald <| i_isub <| i_invS X 161 1 <| i_push (.int 2) <| i_cmp_gt X 119 110
def bX11_meetingOf_110 (X : jX) : jK := i_mask [true, false, true, false, true, true, true] <| i_iload 4 <| i_push (.int 1) <| i_iload 6 <| i_ishl <| i_ior <| i_istore 4 <| i_mask [true, false, true, false, true, true, true] <| i_goto X 119
def bX11_meetingOf_119 (X : jX) : jK := i_mask [true, false, true, false, true, true, true] <| i_iinc 6 1 <| i_mask [true, false, true, false, true, true, true] <| i_goto X 40
def bX11_meetingOf_125 (X : jX) : jK := i_mask [true, false, true, false, true, true, false] <| i_iinc 5 1 <| i_mask [true, false, true, false, true, true, false] <| i_goto X 16
def bX11_meetingOf_131 (X : jX) : jK := i_mask [true, false, true, false, true, false, false] <| i_iload 4 <| i_iload 2 <| i_cmp_eq X 141 137
def bX11_meetingOf_137 (X : jX) : jK := i_mask [true, false, false, false, true, false, false] <| i_push (.int 1) <| i_mask [true, false, false, false, true, false, false] <| i_goto X 142
def bX11_meetingOf_141 (X : jX) : jK := i_mask [true, false, false, false, true, false, false] <| i_push (.int 0) <| i_mask [true, false, false, false, true, false, false] <| i_goto X 142
def bX11_meetingOf_142 (X : jX) : jK := i_mask [true, false, false, false, true, false, false] <| i_istore 3 <| i_iload 4 <| i_istore 2 <| i_mask [true, false, true, true, false, false, false] <| i_goto X 6
def bX11_meetingOf_149 (X : jX) : jK := i_mask [false, false, true, false, false, false, false] <| i_iload 2 <| i_ireturn X
def pX11_meetingOf : jX → Nat → jK := fun X => jpick [(0, bX11_meetingOf_0 X), (6, bX11_meetingOf_6 X), (10, bX11_meetingOf_10 X), (16, bX11_meetingOf_16 X), (25, bX11_meetingOf_25 X), (34, bX11_meetingOf_34 X), (37, bX11_meetingOf_37 X), (40, bX11_meetingOf_40 X), (49, bX11_meetingOf_49 X), (66, bX11_meetingOf_66 X), (88, bX11_meetingOf_88 X), (110, bX11_meetingOf_110 X), (119, bX11_meetingOf_119 X), (125, bX11_meetingOf_125 X), (131, bX11_meetingOf_131 X), (137, bX11_meetingOf_137 X), (141, bX11_meetingOf_141 X), (142, bX11_meetingOf_142 X), (149, bX11_meetingOf_149 X)]
def mX11_meetingOf : jMt := (yX11_meetingOf, cX11_meetingOf, 7, (some .int), pX11_meetingOf)
def bX11_join_0 (X : jX) : jK := i_mask [true, true] <| i_aload 0 <| i_iload 1 <| i_invV X 228 1 11 <| i_if_eq X 16 8
def bX11_join_8 (X : jX) : jK := i_mask [true, true] <| i_aload 0 <| i_iload 1 <| i_invV X 234 1 11 <| i_mask [false, false] <| i_goto X 18
def bX11_join_16 (X : jX) : jK := i_mask [false, false] <| i_push (.int (-5)) <| i_mask [false, false] <| i_goto X 18
def bX11_join_18 (X : jX) : jK := i_mask [false, false] <| i_ireturn X
def pX11_join : jX → Nat → jK := fun X => jpick [(0, bX11_join_0 X), (8, bX11_join_8 X), (16, bX11_join_16 X), (18, bX11_join_18 X)]
def mX11_join : jMt := (yX11_join, cX11_join, 2, (some .int), pX11_join)
def bX11_met_0 (X : jX) : jK := i_mask [true, true, false, false, false] <| i_iload 1 <| i_invS X 229 1 <| i_if_ne X 10 7
def bX11_met_7 (X : jX) : jK := i_mask [false, false, false, false, false] <| i_push (.int (-5)) <| i_ireturn X
def bX11_met_10 (X : jX) : jK := i_mask [true, true, false, false, false] <| i_push (.int 0) <| i_istore 2 <| i_push (.int 0) <| i_istore 3 <| i_push (.int 0) <| i_istore 4 <| i_mask [true, true, true, true, true] <| i_goto X 17
def bX11_met_17 (X : jX) : jK := i_mask [true, true, true, true, true] <| i_iload 4 <| i_aload 0 <| i_getf 11 37 <| i_cmp_ge X 68 26
def bX11_met_26 (X : jX) : jK := i_mask [true, true, true, true, true] <| i_aload 0 <| i_getf 11 38 <| i_iload 4 <| i_iald <| i_iload 1 <| i_cmp_ne X 62 37
def bX11_met_37 (X : jX) : jK := i_mask [true, true, true, true, true] <| i_iload 2 <| i_iload 4 <| i_ishr <| i_push (.int 1) <| i_iand <| i_push (.int 1) <| i_cmp_ne X 50 47
def bX11_met_47 (X : jX) : jK := i_mask [true, true, true, true, true] <| i_mask [true, true, true, true, true] <| i_goto X 62
def bX11_met_50 (X : jX) : jK := i_mask [true, true, true, true, true] <| i_iload 2 <| i_aload 0 <| i_iload 4 <| i_invV X 234 1 11 <| i_ior <| i_istore 2 <| i_iinc 3 1 <| i_mask [true, true, true, true, true] <| i_goto X 62
def bX11_met_62 (X : jX) : jK := i_mask [true, true, true, true, true] <| i_iinc 4 1 <| i_mask [true, true, true, true, true] <| i_goto X 17
def bX11_met_68 (X : jX) : jK := i_mask [false, false, false, true, false] <| i_iload 3 <| i_ireturn X
def pX11_met : jX → Nat → jK := fun X => jpick [(0, bX11_met_0 X), (7, bX11_met_7 X), (10, bX11_met_10 X), (17, bX11_met_17 X), (26, bX11_met_26 X), (37, bX11_met_37 X), (47, bX11_met_47 X), (50, bX11_met_50 X), (62, bX11_met_62 X), (68, bX11_met_68 X)]
def mX11_met : jMt := (yX11_met, cX11_met, 5, (some .int), pX11_met)
def bX11_canBoth_0 (X : jX) : jK := i_mask [true, true, true, true] <| i_aload 0 <| i_getf 11 40 <| i_iload 1 <| i_iald <| i_aload 0 <| i_getf 11 40 <| i_iload 2 <| i_iald <| i_isub <| i_invS X 161 1 <| i_iload 3 <| i_aload 0 <| i_getf 11 39 <| i_iload 1 <| i_iald <| i_aload 0 <| i_getf 11 39 <| i_iload 2 <| i_iald <| i_isub <| i_invS X 161 1 <| i_imul <| i_cmp_gt X 41 37
def bX11_canBoth_37 (X : jX) : jK := i_mask [false, false, false, false] <| i_push (.int 1) <| i_mask [false, false, false, false] <| i_goto X 42
def bX11_canBoth_41 (X : jX) : jK := i_mask [false, false, false, false] <| i_push (.int 0) <| i_mask [false, false, false, false] <| i_goto X 42
def bX11_canBoth_42 (X : jX) : jK := i_mask [false, false, false, false] <| i_ireturn X
def pX11_canBoth : jX → Nat → jK := fun X => jpick [(0, bX11_canBoth_0 X), (37, bX11_canBoth_37 X), (41, bX11_canBoth_41 X), (42, bX11_canBoth_42 X)]
def mX11_canBoth : jMt := (yX11_canBoth, cX11_canBoth, 4, (some .boolean), pX11_canBoth)
def bX11_canAll_0 (X : jX) : jK := i_mask [true, true, true, false, false] <| i_push (.int 0) <| i_istore 3 <| i_mask [true, true, true, true, false] <| i_goto X 2
def bX11_canAll_2 (X : jX) : jK := i_mask [true, true, true, true, false] <| i_iload 3 <| i_aload 0 <| i_getf 11 37 <| i_cmp_ge X 68 10
def bX11_canAll_10 (X : jX) : jK := i_mask [true, true, true, true, false] <| i_iload 3 <| i_push (.int 1) <| i_iadd <| i_istore 4 <| i_mask [true, true, true, true, true] <| i_goto X 15
def bX11_canAll_15 (X : jX) : jK := i_mask [true, true, true, true, true] <| i_iload 4 <| i_aload 0 <| i_getf 11 37 <| i_cmp_ge X 62 24
def bX11_canAll_24 (X : jX) : jK := i_mask [true, true, true, true, true] <| i_iload 1 <| i_iload 3 <| i_ishr <| i_push (.int 1) <| i_iand <| i_push (.int 1) <| i_cmp_ne X 56 33
def bX11_canAll_33 (X : jX) : jK := i_mask [true, true, true, true, true] <| i_iload 1 <| i_iload 4 <| i_ishr <| i_push (.int 1) <| i_iand <| i_push (.int 1) <| i_cmp_ne X 56 43
def bX11_canAll_43 (X : jX) : jK := i_mask [true, true, true, true, true] <| i_aload 0 <| i_iload 3 <| i_iload 4 <| i_iload 2 <| i_invV X 237 3 11 <| i_if_ne X 56 54
def bX11_canAll_54 (X : jX) : jK := i_mask [false, false, false, false, false] <| i_push (.int 0) <| i_ireturn X
def bX11_canAll_56 (X : jX) : jK := i_mask [true, true, true, true, true] <| i_iinc 4 1 <| i_mask [true, true, true, true, true] <| i_goto X 15
def bX11_canAll_62 (X : jX) : jK := i_mask [true, true, true, true, false] <| i_iinc 3 1 <| i_mask [true, true, true, true, false] <| i_goto X 2
def bX11_canAll_68 (X : jX) : jK := i_mask [false, false, false, false, false] <| i_push (.int 1) <| i_ireturn X
def pX11_canAll : jX → Nat → jK := fun X => jpick [(0, bX11_canAll_0 X), (2, bX11_canAll_2 X), (10, bX11_canAll_10 X), (15, bX11_canAll_15 X), (24, bX11_canAll_24 X), (33, bX11_canAll_33 X), (43, bX11_canAll_43 X), (54, bX11_canAll_54 X), (56, bX11_canAll_56 X), (62, bX11_canAll_62 X), (68, bX11_canAll_68 X)]
def mX11_canAll : jMt := (yX11_canAll, cX11_canAll, 5, (some .boolean), pX11_canAll)
def bX11_ofShip_0 (X : jX) : jK := i_mask [true, true, false, false] <| i_push (.int 0) <| i_istore 2 <| i_push (.int 0) <| i_istore 3 <| i_mask [true, true, true, true] <| i_goto X 4
def bX11_ofShip_4 (X : jX) : jK := i_mask [true, true, true, true] <| i_iload 3 <| i_aload 0 <| i_getf 11 37 <| i_cmp_ge X 34 12
def bX11_ofShip_12 (X : jX) : jK := i_mask [true, true, true, true] <| i_aload 0 <| i_getf 11 38 <| i_iload 3 <| i_iald <| i_iload 1 <| i_cmp_ne X 28 22
def bX11_ofShip_22 (X : jX) : jK := i_mask [true, true, true, true] <| i_iload 2 <| i_push (.int 1) <| i_iload 3 <| i_ishl <| i_ior <| i_istore 2 <| i_mask [true, true, true, true] <| i_goto X 28
def bX11_ofShip_28 (X : jX) : jK := i_mask [true, true, true, true] <| i_iinc 3 1 <| i_mask [true, true, true, true] <| i_goto X 4
def bX11_ofShip_34 (X : jX) : jK := i_mask [false, false, true, false] <| i_iload 2 <| i_ireturn X
def pX11_ofShip : jX → Nat → jK := fun X => jpick [(0, bX11_ofShip_0 X), (4, bX11_ofShip_4 X), (12, bX11_ofShip_12 X), (22, bX11_ofShip_22 X), (28, bX11_ofShip_28 X), (34, bX11_ofShip_34 X)]
def mX11_ofShip : jMt := (yX11_ofShip, cX11_ofShip, 4, (some .int), pX11_ofShip)
def bX11_falseOf_0 (X : jX) : jK := i_mask [true, true, true, false, false, false] <| i_aload 0 <| i_iload 1 <| i_invV X 239 1 11 <| i_istore 3 <| i_push (.int (-1)) <| i_istore 4 <| i_push (.int 0) <| i_istore 5 <| i_mask [true, false, true, true, true, true] <| i_goto X 12
def bX11_falseOf_12 (X : jX) : jK := i_mask [true, false, true, true, true, true] <| i_iload 5 <| i_iload 3 <| i_cmp_gt X 72 18
def bX11_falseOf_18 (X : jX) : jK := i_mask [true, false, true, true, true, true] <| i_iload 5 <| i_iload 3 <| i_push (.int (-1)) <| i_ixor <| i_iand <| i_if_ne X 66 27
def bX11_falseOf_27 (X : jX) : jK := i_mask [true, false, true, true, true, true] <| i_iload 4 <| i_if_lt X 48 32
def bX11_falseOf_32 (X : jX) : jK := i_mask [true, false, true, true, true, true] <| i_iload 5 <| i_invS X 162 1 <| i_iload 4 <| i_invS X 162 1 <| i_cmp_lt X 48 45
def bX11_falseOf_45 (X : jX) : jK := i_mask [true, false, true, true, true, true] <| i_mask [true, false, true, true, true, true] <| i_goto X 66
def bX11_falseOf_48 (X : jX) : jK := i_mask [true, false, true, true, true, true] <| i_aload 0 <| i_iload 3 <| i_iload 5 <| i_push (.int (-1)) <| i_ixor <| i_iand <| i_iload 2 <| i_invV X 238 2 11 <| i_if_eq X 66 62
def bX11_falseOf_62 (X : jX) : jK := i_mask [true, false, true, true, false, true] <| i_iload 5 <| i_istore 4 <| i_mask [true, false, true, true, true, true] <| i_goto X 66
def bX11_falseOf_66 (X : jX) : jK := i_mask [true, false, true, true, true, true] <| i_iinc 5 1 <| i_mask [true, false, true, true, true, true] <| i_goto X 12
def bX11_falseOf_72 (X : jX) : jK := i_mask [false, false, false, false, true, false] <| i_iload 4 <| i_ireturn X
def pX11_falseOf : jX → Nat → jK := fun X => jpick [(0, bX11_falseOf_0 X), (12, bX11_falseOf_12 X), (18, bX11_falseOf_18 X), (27, bX11_falseOf_27 X), (32, bX11_falseOf_32 X), (45, bX11_falseOf_45 X), (48, bX11_falseOf_48 X), (62, bX11_falseOf_62 X), (66, bX11_falseOf_66 X), (72, bX11_falseOf_72 X)]
def mX11_falseOf : jMt := (yX11_falseOf, cX11_falseOf, 6, (some .int), pX11_falseOf)
def bX11_falseOnes_0 (X : jX) : jK := i_mask [true, true, true] <| i_iload 1 <| i_invS X 229 1 <| i_if_ne X 12 7
def bX11_falseOnes_7 (X : jX) : jK := i_mask [false, false, false] <| i_push (.int (-5)) <| i_mask [false, false, false] <| i_goto X 30
def bX11_falseOnes_12 (X : jX) : jK := i_mask [true, true, true] <| i_iload 2 <| i_invS X 231 1 <| i_if_eq X 28 19
def bX11_falseOnes_19 (X : jX) : jK := i_mask [true, true, true] <| i_aload 0 <| i_iload 1 <| i_iload 2 <| i_invV X 240 2 11 <| i_mask [false, false, false] <| i_goto X 30
def bX11_falseOnes_28 (X : jX) : jK := i_mask [false, false, false] <| i_push (.int (-7)) <| i_mask [false, false, false] <| i_goto X 30
def bX11_falseOnes_30 (X : jX) : jK := i_mask [false, false, false] <| i_ireturn X
def pX11_falseOnes : jX → Nat → jK := fun X => jpick [(0, bX11_falseOnes_0 X), (7, bX11_falseOnes_7 X), (12, bX11_falseOnes_12 X), (19, bX11_falseOnes_19 X), (28, bX11_falseOnes_28 X), (30, bX11_falseOnes_30 X)]
def mX11_falseOnes : jMt := (yX11_falseOnes, cX11_falseOnes, 3, (some .int), pX11_falseOnes)
def bX11_mayBe_0 (X : jX) : jK := i_mask [true, true, true, true, false, false, false, false, false, false] <| i_aload 0 <| i_iload 1 <| i_invV X 239 1 11 <| i_aload 0 <| i_iload 1 <| i_iload 2 <| i_invV X 240 2 11 <| i_push (.int (-1)) <| i_ixor <| i_iand <| i_istore 4 <| i_push (.long 0) <| i_lstore 5 <| i_push (.int 0) <| i_istore 7 <| i_mask [true, false, true, true, true, true, false, true, false, false] <| i_goto X 22
def bX11_mayBe_22 (X : jX) : jK := i_mask [true, false, true, true, true, true, false, true, false, false] <| i_iload 7 <| i_push (.int 61) <| i_cmp_ge X 114 29
def bX11_mayBe_29 (X : jX) : jK := i_mask [true, false, true, true, true, true, false, true, false, false] <| i_push (.int 1) <| i_istore 8 <| i_push (.int 0) <| i_istore 9 <| i_mask [true, false, true, true, true, true, false, true, true, true] <| i_goto X 35
def bX11_mayBe_35 (X : jX) : jK := i_mask [true, false, true, true, true, true, false, true, true, true] <| i_iload 9 <| i_aload 0 <| i_getf 11 37 <| i_cmp_ge X 94 44
def bX11_mayBe_44 (X : jX) : jK := i_mask [true, false, true, true, true, true, false, true, true, true] <| i_iload 4 <| i_iload 9 <| i_ishr <| i_push (.int 1) <| i_iand <| i_push (.int 1) <| i_cmp_ne X 88 55
def bX11_mayBe_55 (X : jX) : jK := i_mask [true, false, true, true, true, true, false, true, true, true] <| i_aload 0 <| i_getf 11 40 <| i_iload 9 <| i_iald <| i_iload 7 <| i_isub <| i_invS X 161 1 <| i_iload 2 <| i_aload 0 <| i_getf 11 39 <| i_iload 9 <| i_iald <| i_iload 3 <| i_isub <| i_invS X 161 1 <| i_imul <| i_cmp_le X 88 85
def bX11_mayBe_85 (X : jX) : jK := i_mask [true, false, true, true, true, true, false, true, false, true] <| i_push (.int 0) <| i_istore 8 <| i_mask [true, false, true, true, true, true, false, true, true, true] <| i_goto X 88
def bX11_mayBe_88 (X : jX) : jK := i_mask [true, false, true, true, true, true, false, true, true, true] <| i_iinc 9 1 <| i_mask [true, false, true, true, true, true, false, true, true, true] <| i_goto X 35
def bX11_mayBe_94 (X : jX) : jK := i_mask [true, false, true, true, true, true, false, true, true, false] <| i_iload 8 <| i_if_eq X 108 99
def bX11_mayBe_99 (X : jX) : jK := i_mask [true, false, true, true, true, true, false, true, false, false] <| i_lload 5 <| i_push (.long 1) <| i_iload 7 <| i_lshl <| i_lor <| i_lstore 5 <| i_mask [true, false, true, true, true, true, false, true, false, false] <| i_goto X 108
def bX11_mayBe_108 (X : jX) : jK := i_mask [true, false, true, true, true, true, false, true, false, false] <| i_iinc 7 1 <| i_mask [true, false, true, true, true, true, false, true, false, false] <| i_goto X 22
def bX11_mayBe_114 (X : jX) : jK := i_mask [false, false, false, false, false, true, false, false, false, false] <| i_lload 5 <| i_lreturn X
def pX11_mayBe : jX → Nat → jK := fun X => jpick [(0, bX11_mayBe_0 X), (22, bX11_mayBe_22 X), (29, bX11_mayBe_29 X), (35, bX11_mayBe_35 X), (44, bX11_mayBe_44 X), (55, bX11_mayBe_55 X), (85, bX11_mayBe_85 X), (88, bX11_mayBe_88 X), (94, bX11_mayBe_94 X), (99, bX11_mayBe_99 X), (108, bX11_mayBe_108 X), (114, bX11_mayBe_114 X)]
def mX11_mayBe : jMt := (yX11_mayBe, cX11_mayBe, 10, (some .long), pX11_mayBe)
def bX11_there_0 (X : jX) : jK := i_mask [true, true, true, true] <| i_iload 1 <| i_invS X 229 1 <| i_if_eq X 31 7
def bX11_there_7 (X : jX) : jK := i_mask [true, true, true, true] <| i_iload 2 <| i_invS X 231 1 <| i_if_eq X 31 14
def bX11_there_14 (X : jX) : jK := i_mask [true, true, true, true] <| i_iload 3 <| i_invS X 230 1 <| i_if_eq X 31 21
def bX11_there_21 (X : jX) : jK := i_mask [true, true, true, true] <| i_aload 0 <| i_iload 1 <| i_iload 2 <| i_iload 3 <| i_invV X 242 3 11 <| i_mask [false, false, false, false] <| i_goto X 34
def bX11_there_31 (X : jX) : jK := i_mask [false, false, false, false] <| i_push (.long (-4611686018427387904)) <| i_mask [false, false, false, false] <| i_goto X 34
def bX11_there_34 (X : jX) : jK := i_mask [false, false, false, false] <| i_lreturn X
def pX11_there : jX → Nat → jK := fun X => jpick [(0, bX11_there_0 X), (7, bX11_there_7 X), (14, bX11_there_14 X), (21, bX11_there_21 X), (31, bX11_there_31 X), (34, bX11_there_34 X)]
def mX11_there : jMt := (yX11_there, cX11_there, 4, (some .long), pX11_there)
def bX11_last_0 (X : jX) : jK := i_mask [true, true, true, true, false, false, false] <| i_iload 1 <| i_invS X 229 1 <| i_if_ne X 10 7
def bX11_last_7 (X : jX) : jK := i_mask [false, false, false, false, false, false, false] <| i_push (.int (-5)) <| i_ireturn X
def bX11_last_10 (X : jX) : jK := i_mask [true, true, true, true, false, false, false] <| i_iload 2 <| i_invS X 231 1 <| i_if_eq X 26 17
def bX11_last_17 (X : jX) : jK := i_mask [true, true, true, true, false, false, false] <| i_iload 3 <| i_push (.int 0) <| i_push (.int 1) <| i_invS X 159 3 <| i_if_ne X 29 26
def bX11_last_26 (X : jX) : jK := i_mask [false, false, false, false, false, false, false] <| i_push (.int (-7)) <| i_ireturn X
def bX11_last_29 (X : jX) : jK := i_mask [true, true, true, true, false, false, false] <| i_aload 0 <| i_iload 1 <| i_invV X 239 1 11 <| i_aload 0 <| i_iload 1 <| i_iload 2 <| i_invV X 240 2 11 <| i_push (.int (-1)) <| i_ixor <| i_iand <| i_istore 4 <| i_push (.int (-1)) <| i_istore 5 <| i_push (.int 0) <| i_istore 6 <| i_mask [true, false, false, true, true, true, true] <| i_goto X 51
def bX11_last_51 (X : jX) : jK := i_mask [true, false, false, true, true, true, true] <| i_iload 6 <| i_aload 0 <| i_getf 11 37 <| i_cmp_ge X 103 60
def bX11_last_60 (X : jX) : jK := i_mask [true, false, false, true, true, true, true] <| i_iload 4 <| i_iload 6 <| i_ishr <| i_push (.int 1) <| i_iand <| i_push (.int 1) <| i_cmp_ne X 97 71
def bX11_last_71 (X : jX) : jK := i_mask [true, false, false, true, true, true, true] <| i_iload 5 <| i_if_lt X 93 76
def bX11_last_76 (X : jX) : jK := i_mask [true, false, false, true, true, true, true] <| i_aload 0 <| i_getf 11 39 <| i_iload 6 <| i_iald <| i_aload 0 <| i_getf 11 39 <| i_iload 5 <| i_iald <| i_cmp_le X 97 93
def bX11_last_93 (X : jX) : jK := i_mask [true, false, false, true, true, false, true] <| i_iload 6 <| i_istore 5 <| i_mask [true, false, false, true, true, true, true] <| i_goto X 97
def bX11_last_97 (X : jX) : jK := i_mask [true, false, false, true, true, true, true] <| i_iinc 6 1 <| i_mask [true, false, false, true, true, true, true] <| i_goto X 51
def bX11_last_103 (X : jX) : jK := i_mask [true, false, false, true, false, true, false] <| i_iload 5 <| i_if_ge X 112 108
def bX11_last_108 (X : jX) : jK := i_mask [false, false, false, false, false, false, false] <| i_push (.int (-1)) <| i_mask [false, false, false, false, false, false, false] <| i_goto X 133
def bX11_last_112 (X : jX) : jK := i_mask [true, false, false, true, false, true, false] <| i_iload 3 <| i_if_ne X 126 116
def bX11_last_116 (X : jX) : jK := i_mask [true, false, false, false, false, true, false] <| i_aload 0 <| i_getf 11 39 <| i_iload 5 <| i_iald <| i_mask [false, false, false, false, false, false, false] <| i_goto X 133
def bX11_last_126 (X : jX) : jK := i_mask [true, false, false, false, false, true, false] <| i_aload 0 <| i_getf 11 40 <| i_iload 5 <| i_iald <| i_mask [false, false, false, false, false, false, false] <| i_goto X 133
def bX11_last_133 (X : jX) : jK := i_mask [false, false, false, false, false, false, false] <| i_ireturn X
def pX11_last : jX → Nat → jK := fun X => jpick [(0, bX11_last_0 X), (7, bX11_last_7 X), (10, bX11_last_10 X), (17, bX11_last_17 X), (26, bX11_last_26 X), (29, bX11_last_29 X), (51, bX11_last_51 X), (60, bX11_last_60 X), (71, bX11_last_71 X), (76, bX11_last_76 X), (93, bX11_last_93 X), (97, bX11_last_97 X), (103, bX11_last_103 X), (108, bX11_last_108 X), (112, bX11_last_112 X), (116, bX11_last_116 X), (126, bX11_last_126 X), (133, bX11_last_133 X)]
def mX11_last : jMt := (yX11_last, cX11_last, 7, (some .int), pX11_last)
def bX11_cellOdds_0 (X : jX) : jK := i_mask [true, true, true, true, true, false, true, false, false, false, false, false, false] <| i_iload 1 <| i_invS X 229 1 <| i_if_eq X 53 7
def bX11_cellOdds_7 (X : jX) : jK := i_mask [true, true, true, true, true, false, true, false, false, false, false, false, false] <| i_iload 2 <| i_if_lt X 53 11
def bX11_cellOdds_11 (X : jX) : jK := i_mask [true, true, true, true, true, false, true, false, false, false, false, false, false] <| i_iload 2 <| i_push (.int 1000) <| i_idiv <| i_invS X 231 1 <| i_if_eq X 53 22
def bX11_cellOdds_22 (X : jX) : jK := i_mask [true, true, true, true, true, false, true, false, false, false, false, false, false] <| i_iload 2 <| i_push (.int 1000) <| i_irem <| i_invS X 230 1 <| i_if_eq X 53 33
def bX11_cellOdds_33 (X : jX) : jK := i_mask [true, true, true, true, true, false, true, false, false, false, false, false, false] <| i_iload 3 <| i_push (.int 0) <| i_push (.int 60) <| i_invS X 159 3 <| i_if_eq X 53 43
def bX11_cellOdds_43 (X : jX) : jK := i_mask [true, true, true, true, true, false, true, false, false, false, false, false, false] <| i_iload 6 <| i_push (.int 0) <| i_push (.int 1) <| i_invS X 159 3 <| i_if_ne X 57 53
def bX11_cellOdds_53 (X : jX) : jK := i_mask [false, false, false, false, false, false, false, false, false, false, false, false, false] <| i_push (.long (-4611686018427387904)) <| i_lreturn X
def bX11_cellOdds_57 (X : jX) : jK := i_mask [true, true, true, true, true, false, true, false, false, false, false, false, false] <| i_aload 0 <| i_iload 1 <| i_iload 2 <| i_push (.int 1000) <| i_idiv <| i_iload 2 <| i_push (.int 1000) <| i_irem <| i_invV X 242 3 11 <| i_lload 4 <| i_push (.long (-1)) <| i_lxor <| i_land <| i_lstore 7 <| i_push (.long 0) <| i_lstore 9 <| i_lload 7 <| i_lstore 11 <| i_mask [false, false, false, true, false, false, true, true, false, true, false, true, false] <| i_goto X 88
def bX11_cellOdds_88 (X : jX) : jK := i_mask [false, false, false, true, false, false, true, true, false, true, false, true, false] <| i_lload 11 <| i_push (.long 0) <| i_lcmp <| i_if_eq X 113 95
def bX11_cellOdds_95 (X : jX) : jK := i_mask [false, false, false, true, false, false, true, true, false, true, false, true, false] <| i_lload 9 <| i_push (.long 1) <| i_ladd <| i_lstore 9 <| i_lload 11 <| i_lload 11 <| i_push (.long 1) <| i_lsub <| i_land <| i_lstore 11 <| i_mask [false, false, false, true, false, false, true, true, false, true, false, true, false] <| i_goto X 88
def bX11_cellOdds_113 (X : jX) : jK := i_mask [false, false, false, true, false, false, true, true, false, true, false, false, false] <| i_lload 7 <| i_iload 3 <| i_lshr <| i_push (.long 1) <| i_land <| i_lload 9 <| i_iload 6 <| i_if_ne X 130 126
def bX11_cellOdds_126 (X : jX) : jK := i_mask [false, false, false, false, false, false, false, false, false, false, false, false, false] <| i_push (.int 1) <| i_mask [false, false, false, false, false, false, false, false, false, false, false, false, false] <| i_goto X 131
def bX11_cellOdds_130 (X : jX) : jK := i_mask [false, false, false, false, false, false, false, false, false, false, false, false, false] <| i_push (.int 0) <| i_mask [false, false, false, false, false, false, false, false, false, false, false, false, false] <| i_goto X 131
def bX11_cellOdds_131 (X : jX) : jK := i_mask [false, false, false, false, false, false, false, false, false, false, false, false, false] <| i_invS X 218 3 <| i_lreturn X
def pX11_cellOdds : jX → Nat → jK := fun X => jpick [(0, bX11_cellOdds_0 X), (7, bX11_cellOdds_7 X), (11, bX11_cellOdds_11 X), (22, bX11_cellOdds_22 X), (33, bX11_cellOdds_33 X), (43, bX11_cellOdds_43 X), (53, bX11_cellOdds_53 X), (57, bX11_cellOdds_57 X), (88, bX11_cellOdds_88 X), (95, bX11_cellOdds_95 X), (113, bX11_cellOdds_113 X), (126, bX11_cellOdds_126 X), (130, bX11_cellOdds_130 X), (131, bX11_cellOdds_131 X)]
def mX11_cellOdds : jMt := (yX11_cellOdds, cX11_cellOdds, 13, (some .long), pX11_cellOdds)
def bX11_meet_0 (X : jX) : jK := i_mask [true, true, true, true] <| i_iload 1 <| i_invS X 230 1 <| i_if_eq X 26 7
def bX11_meet_7 (X : jX) : jK := i_mask [true, true, true, true] <| i_iload 2 <| i_invS X 229 1 <| i_if_eq X 26 14
def bX11_meet_14 (X : jX) : jK := i_mask [true, true, true, true] <| i_iload 3 <| i_invS X 229 1 <| i_if_eq X 26 21
def bX11_meet_21 (X : jX) : jK := i_mask [true, true, true, true] <| i_iload 2 <| i_iload 3 <| i_cmp_ne X 29 26
def bX11_meet_26 (X : jX) : jK := i_mask [false, false, false, false] <| i_push (.int (-2)) <| i_ireturn X
def bX11_meet_29 (X : jX) : jK := i_mask [true, true, true, true] <| i_aload 0 <| i_getf 11 42 <| i_if_le X 54 36
def bX11_meet_36 (X : jX) : jK := i_mask [true, true, true, true] <| i_iload 1 <| i_aload 0 <| i_getf 11 43 <| i_aload 0 <| i_getf 11 42 <| i_push (.int 1) <| i_isub <| i_iald <| i_cmp_ge X 54 51
def bX11_meet_51 (X : jX) : jK := i_mask [false, false, false, false] <| i_push (.int (-3)) <| i_ireturn X
def bX11_meet_54 (X : jX) : jK := i_mask [true, true, true, true] <| i_aload 0 <| i_getf 11 42 <| i_push (.int 24) <| i_cmp_ne X 66 63
def bX11_meet_63 (X : jX) : jK := i_mask [false, false, false, false] <| i_push (.int (-4)) <| i_ireturn X
def bX11_meet_66 (X : jX) : jK := i_mask [true, true, true, true] <| i_aload 0 <| i_getf 11 43 <| i_aload 0 <| i_getf 11 42 <| i_iload 1 <| i_iast <| i_aload 0 <| i_getf 11 44 <| i_aload 0 <| i_getf 11 42 <| i_iload 2 <| i_iast <| i_aload 0 <| i_getf 11 45 <| i_aload 0 <| i_getf 11 42 <| i_iload 3 <| i_iast <| i_aload 0 <| i_dup <| i_getf 11 42 <| i_push (.int 1) <| i_iadd <| i_putI 11 42 <| i_aload 0 <| i_getf 11 42 <| i_push (.int 1) <| i_isub <| i_ireturn X
def pX11_meet : jX → Nat → jK := fun X => jpick [(0, bX11_meet_0 X), (7, bX11_meet_7 X), (14, bX11_meet_14 X), (21, bX11_meet_21 X), (26, bX11_meet_26 X), (29, bX11_meet_29 X), (36, bX11_meet_36 X), (51, bX11_meet_51 X), (54, bX11_meet_54 X), (63, bX11_meet_63 X), (66, bX11_meet_66 X)]
def mX11_meet : jMt := (yX11_meet, cX11_meet, 4, (some .int), pX11_meet)
def bX11_spread_0 (X : jX) : jK := i_mask [true, true, true, true, false, false, false] <| i_push (.int 0) <| i_istore 4 <| i_mask [true, true, true, true, true, false, false] <| i_goto X 3
def bX11_spread_3 (X : jX) : jK := i_mask [true, true, true, true, true, false, false] <| i_iload 4 <| i_push (.int 4) <| i_cmp_ge X 33 9
def bX11_spread_9 (X : jX) : jK := i_mask [true, true, true, true, true, false, false] <| i_aload 0 <| i_getf 11 46 <| i_iload 4 <| i_iload 4 <| i_iload 1 <| i_cmp_ne X 25 21
def bX11_spread_21 (X : jX) : jK := i_mask [true, true, true, true, true, false, false] <| i_iload 2 <| i_mask [true, true, true, true, true, false, false] <| i_goto X 26
def bX11_spread_25 (X : jX) : jK := i_mask [true, true, true, true, true, false, false] <| i_push (.int (-1)) <| i_mask [true, true, true, true, true, false, false] <| i_goto X 26
def bX11_spread_26 (X : jX) : jK := i_mask [true, true, true, true, true, false, false] <| i_iast <| i_iinc 4 1 <| i_mask [true, true, true, true, true, false, false] <| i_goto X 3
def bX11_spread_33 (X : jX) : jK := i_mask [true, false, true, true, false, false, false] <| i_push (.int 0) <| i_istore 4 <| i_mask [true, false, true, true, true, false, false] <| i_goto X 36
def bX11_spread_36 (X : jX) : jK := i_mask [true, false, true, true, true, false, false] <| i_iload 4 <| i_aload 0 <| i_getf 11 42 <| i_cmp_ge X 173 45
def bX11_spread_45 (X : jX) : jK := i_mask [true, false, true, true, true, false, false] <| i_iload 4 <| i_iload 3 <| i_cmp_eq X 167 51
def bX11_spread_51 (X : jX) : jK := i_mask [true, false, true, true, true, false, false] <| i_aload 0 <| i_getf 11 43 <| i_iload 4 <| i_iald <| i_iload 2 <| i_cmp_ge X 65 62
def bX11_spread_62 (X : jX) : jK := i_mask [true, false, true, true, true, false, false] <| i_mask [true, false, true, true, true, false, false] <| i_goto X 167
def bX11_spread_65 (X : jX) : jK := i_mask [true, false, true, true, true, false, false] <| i_aload 0 <| i_getf 11 46 <| i_aload 0 <| i_getf 11 44 <| i_iload 4 <| i_iald <| i_iald <| i_if_lt X 84 80
def bX11_spread_80 (X : jX) : jK := i_mask [true, false, true, true, true, false, false] <| i_push (.int 1) <| i_mask [true, false, true, true, true, false, false] <| i_goto X 85
def bX11_spread_84 (X : jX) : jK := i_mask [true, false, true, true, true, false, false] <| i_push (.int 0) <| i_mask [true, false, true, true, true, false, false] <| i_goto X 85
def bX11_spread_85 (X : jX) : jK := i_mask [true, false, true, true, true, false, false] <| i_istore 5 <| i_aload 0 <| i_getf 11 46 <| i_aload 0 <| i_getf 11 45 <| i_iload 4 <| i_iald <| i_iald <| i_if_lt X 106 102
def bX11_spread_102 (X : jX) : jK := i_mask [true, false, true, true, true, true, false] <| i_push (.int 1) <| i_mask [true, false, true, true, true, true, false] <| i_goto X 107
def bX11_spread_106 (X : jX) : jK := i_mask [true, false, true, true, true, true, false] <| i_push (.int 0) <| i_mask [true, false, true, true, true, true, false] <| i_goto X 107
def bX11_spread_107 (X : jX) : jK := i_mask [true, false, true, true, true, true, false] <| i_istore 6 <| i_iload 5 <| i_if_eq X 138 114
def bX11_spread_114 (X : jX) : jK := i_mask [true, false, true, true, true, true, true] <| i_iload 6 <| i_if_ne X 138 119
def bX11_spread_119 (X : jX) : jK := i_mask [true, false, true, true, true, true, true] <| i_aload 0 <| i_getf 11 46 <| i_aload 0 <| i_getf 11 45 <| i_iload 4 <| i_iald <| i_aload 0 <| i_getf 11 43 <| i_iload 4 <| i_iald <| i_iast <| i_mask [true, false, true, true, true, true, true] <| i_goto X 138
def bX11_spread_138 (X : jX) : jK := i_mask [true, false, true, true, true, true, true] <| i_iload 6 <| i_if_eq X 167 143
def bX11_spread_143 (X : jX) : jK := i_mask [true, false, true, true, true, true, false] <| i_iload 5 <| i_if_ne X 167 148
def bX11_spread_148 (X : jX) : jK := i_mask [true, false, true, true, true, false, false] <| i_aload 0 <| i_getf 11 46 <| i_aload 0 <| i_getf 11 44 <| i_iload 4 <| i_iald <| i_aload 0 <| i_getf 11 43 <| i_iload 4 <| i_iald <| i_iast <| i_mask [true, false, true, true, true, false, false] <| i_goto X 167
def bX11_spread_167 (X : jX) : jK := i_mask [true, false, true, true, true, false, false] <| i_iinc 4 1 <| i_mask [true, false, true, true, true, false, false] <| i_goto X 36
def bX11_spread_173 (X : jX) : jK := i_mask [false, false, false, false, false, false, false] <| i_return X
def pX11_spread : jX → Nat → jK := fun X => jpick [(0, bX11_spread_0 X), (3, bX11_spread_3 X), (9, bX11_spread_9 X), (21, bX11_spread_21 X), (25, bX11_spread_25 X), (26, bX11_spread_26 X), (33, bX11_spread_33 X), (36, bX11_spread_36 X), (45, bX11_spread_45 X), (51, bX11_spread_51 X), (62, bX11_spread_62 X), (65, bX11_spread_65 X), (80, bX11_spread_80 X), (84, bX11_spread_84 X), (85, bX11_spread_85 X), (102, bX11_spread_102 X), (106, bX11_spread_106 X), (107, bX11_spread_107 X), (114, bX11_spread_114 X), (119, bX11_spread_119 X), (138, bX11_spread_138 X), (143, bX11_spread_143 X), (148, bX11_spread_148 X), (167, bX11_spread_167 X), (173, bX11_spread_173 X)]
def mX11_spread : jMt := (yX11_spread, cX11_spread, 7, none, pX11_spread)
def bX11_news_0 (X : jX) : jK := i_mask [true, true, true, true] <| i_iload 1 <| i_invS X 229 1 <| i_if_eq X 14 7
def bX11_news_7 (X : jX) : jK := i_mask [true, true, true, true] <| i_iload 3 <| i_invS X 229 1 <| i_if_ne X 17 14
def bX11_news_14 (X : jX) : jK := i_mask [false, false, false, false] <| i_push (.int (-5)) <| i_ireturn X
def bX11_news_17 (X : jX) : jK := i_mask [true, true, true, true] <| i_iload 2 <| i_invS X 230 1 <| i_if_ne X 27 24
def bX11_news_24 (X : jX) : jK := i_mask [false, false, false, false] <| i_push (.int (-7)) <| i_ireturn X
def bX11_news_27 (X : jX) : jK := i_mask [true, true, true, true] <| i_aload 0 <| i_iload 1 <| i_iload 2 <| i_push (.int (-1)) <| i_invV X 247 3 11 <| i_aload 0 <| i_getf 11 46 <| i_iload 3 <| i_iald <| i_ireturn X
def pX11_news : jX → Nat → jK := fun X => jpick [(0, bX11_news_0 X), (7, bX11_news_7 X), (14, bX11_news_14 X), (17, bX11_news_17 X), (24, bX11_news_24 X), (27, bX11_news_27 X)]
def mX11_news : jMt := (yX11_news, cX11_news, 4, (some .int), pX11_news)
def bX11_peace_0 (X : jX) : jK := i_mask [true, true, true, true, false, false] <| i_iload 1 <| i_invS X 229 1 <| i_if_ne X 10 7
def bX11_peace_7 (X : jX) : jK := i_mask [false, false, false, false, false, false] <| i_push (.int (-5)) <| i_ireturn X
def bX11_peace_10 (X : jX) : jK := i_mask [true, true, true, true, false, false] <| i_iload 2 <| i_invS X 230 1 <| i_if_eq X 24 17
def bX11_peace_17 (X : jX) : jK := i_mask [true, true, true, true, false, false] <| i_iload 3 <| i_invS X 230 1 <| i_if_ne X 27 24
def bX11_peace_24 (X : jX) : jK := i_mask [false, false, false, false, false, false] <| i_push (.int (-7)) <| i_ireturn X
def bX11_peace_27 (X : jX) : jK := i_mask [true, true, true, true, false, false] <| i_aload 0 <| i_iload 1 <| i_iload 2 <| i_push (.int (-1)) <| i_invV X 247 3 11 <| i_push (.int 0) <| i_istore 4 <| i_push (.int 0) <| i_istore 5 <| i_mask [true, false, false, true, true, true] <| i_goto X 40
def bX11_peace_40 (X : jX) : jK := i_mask [true, false, false, true, true, true] <| i_iload 5 <| i_push (.int 4) <| i_cmp_ge X 83 46
def bX11_peace_46 (X : jX) : jK := i_mask [true, false, false, true, true, true] <| i_iload 4 <| i_aload 0 <| i_getf 11 46 <| i_iload 5 <| i_iald <| i_if_lt X 73 58
def bX11_peace_58 (X : jX) : jK := i_mask [true, false, false, true, false, true] <| i_aload 0 <| i_getf 11 46 <| i_iload 5 <| i_iald <| i_iload 3 <| i_cmp_gt X 73 69
def bX11_peace_69 (X : jX) : jK := i_mask [true, false, false, true, false, true] <| i_push (.int 1) <| i_mask [true, false, false, true, false, true] <| i_goto X 74
def bX11_peace_73 (X : jX) : jK := i_mask [true, false, false, true, false, true] <| i_push (.int 0) <| i_mask [true, false, false, true, false, true] <| i_goto X 74
def bX11_peace_74 (X : jX) : jK := i_mask [true, false, false, true, false, true] <| i_iadd <| i_istore 4 <| i_iinc 5 1 <| i_mask [true, false, false, true, true, true] <| i_goto X 40
def bX11_peace_83 (X : jX) : jK := i_mask [false, false, false, false, true, false] <| i_iload 4 <| i_ireturn X
def pX11_peace : jX → Nat → jK := fun X => jpick [(0, bX11_peace_0 X), (7, bX11_peace_7 X), (10, bX11_peace_10 X), (17, bX11_peace_17 X), (24, bX11_peace_24 X), (27, bX11_peace_27 X), (40, bX11_peace_40 X), (46, bX11_peace_46 X), (58, bX11_peace_58 X), (69, bX11_peace_69 X), (73, bX11_peace_73 X), (74, bX11_peace_74 X), (83, bX11_peace_83 X)]
def mX11_peace : jMt := (yX11_peace, cX11_peace, 6, (some .int), pX11_peace)
def bX11_key_0 (X : jX) : jK := i_mask [true, true, true, true, false, false] <| i_iload 1 <| i_invS X 229 1 <| i_if_eq X 14 7
def bX11_key_7 (X : jX) : jK := i_mask [true, true, true, true, false, false] <| i_iload 3 <| i_invS X 229 1 <| i_if_ne X 17 14
def bX11_key_14 (X : jX) : jK := i_mask [false, false, false, false, false, false] <| i_push (.int (-5)) <| i_ireturn X
def bX11_key_17 (X : jX) : jK := i_mask [true, true, true, true, false, false] <| i_iload 2 <| i_invS X 230 1 <| i_if_ne X 27 24
def bX11_key_24 (X : jX) : jK := i_mask [false, false, false, false, false, false] <| i_push (.int (-7)) <| i_ireturn X
def bX11_key_27 (X : jX) : jK := i_mask [true, true, true, true, false, false] <| i_aload 0 <| i_iload 1 <| i_iload 2 <| i_push (.int (-1)) <| i_invV X 247 3 11 <| i_aload 0 <| i_getf 11 46 <| i_iload 3 <| i_iald <| i_istore 4 <| i_iload 4 <| i_if_ge X 49 47
def bX11_key_47 (X : jX) : jK := i_mask [false, false, false, false, false, false] <| i_push (.int (-1)) <| i_ireturn X
def bX11_key_49 (X : jX) : jK := i_mask [true, true, true, true, true, false] <| i_push (.int 0) <| i_istore 5 <| i_mask [true, true, true, true, true, true] <| i_goto X 52
def bX11_key_52 (X : jX) : jK := i_mask [true, true, true, true, true, true] <| i_iload 5 <| i_aload 0 <| i_getf 11 42 <| i_cmp_ge X 98 61
def bX11_key_61 (X : jX) : jK := i_mask [true, true, true, true, true, true] <| i_aload 0 <| i_iload 1 <| i_iload 2 <| i_iload 5 <| i_invV X 247 3 11 <| i_aload 0 <| i_getf 11 46 <| i_iload 3 <| i_iald <| i_if_lt X 89 78
def bX11_key_78 (X : jX) : jK := i_mask [true, true, true, true, true, true] <| i_aload 0 <| i_getf 11 46 <| i_iload 3 <| i_iald <| i_iload 4 <| i_cmp_le X 92 89
def bX11_key_89 (X : jX) : jK := i_mask [false, false, false, false, false, true] <| i_iload 5 <| i_ireturn X
def bX11_key_92 (X : jX) : jK := i_mask [true, true, true, true, true, true] <| i_iinc 5 1 <| i_mask [true, true, true, true, true, true] <| i_goto X 52
def bX11_key_98 (X : jX) : jK := i_mask [false, false, false, false, false, false] <| i_push (.int (-1)) <| i_ireturn X
def pX11_key : jX → Nat → jK := fun X => jpick [(0, bX11_key_0 X), (7, bX11_key_7 X), (14, bX11_key_14 X), (17, bX11_key_17 X), (24, bX11_key_24 X), (27, bX11_key_27 X), (47, bX11_key_47 X), (49, bX11_key_49 X), (52, bX11_key_52 X), (61, bX11_key_61 X), (78, bX11_key_78 X), (89, bX11_key_89 X), (92, bX11_key_92 X), (98, bX11_key_98 X)]
def mX11_key : jMt := (yX11_key, cX11_key, 6, (some .int), pX11_key)
def bX11_drawn_0 (X : jX) : jK := i_mask [true, true, true, false, false, false, false, false, false] <| i_iload 1 <| i_push (.int 0) <| i_push (.int 99999) <| i_invS X 159 3 <| i_if_eq X 20 11
def bX11_drawn_11 (X : jX) : jK := i_mask [true, true, true, false, false, false, false, false, false] <| i_iload 2 <| i_push (.int 0) <| i_push (.int 2) <| i_invS X 159 3 <| i_if_ne X 23 20
def bX11_drawn_20 (X : jX) : jK := i_mask [false, false, false, false, false, false, false, false, false] <| i_push (.int (-2)) <| i_ireturn X
def bX11_drawn_23 (X : jX) : jK := i_mask [true, true, true, false, false, false, false, false, false] <| i_aload 0 <| i_invV X 201 0 11 <| i_pop2 <| i_iload 1 <| i_i2l <| i_push (.long 1) <| i_ladd <| i_lstore 3 <| i_push (.int 0) <| i_istore 5 <| i_push (.int 0) <| i_istore 6 <| i_push (.int 0) <| i_istore 7 <| i_mask [true, false, true, true, false, true, true, true, false] <| i_goto X 42
def bX11_drawn_42 (X : jX) : jK := i_mask [true, false, true, true, false, true, true, true, false] <| i_iload 7 <| i_aload 0 <| i_getf 11 25 <| i_cmp_ge X 134 51
def bX11_drawn_51 (X : jX) : jK := i_mask [true, false, true, true, false, true, true, true, false] <| i_aload 0 <| i_getf 11 28 <| i_iload 7 <| i_iald <| i_push (.int 1) <| i_cmp_ge X 65 62
def bX11_drawn_62 (X : jX) : jK := i_mask [true, false, true, true, false, true, true, true, false] <| i_mask [true, false, true, true, false, true, true, true, false] <| i_goto X 128
def bX11_drawn_65 (X : jX) : jK := i_mask [true, false, true, true, false, true, true, true, false] <| i_lload 3 <| i_push (.long 48271) <| i_lmul <| i_push (.long 2147483647) <| i_lrem <| i_lstore 3 <| i_lload 3 <| i_push (.long 100) <| i_lrem <| i_aload 0 <| i_getf 11 28 <| i_iload 7 <| i_iald <| i_i2l <| i_lcmp <| i_if_lt X 95 92
def bX11_drawn_92 (X : jX) : jK := i_mask [true, false, true, true, false, true, true, true, false] <| i_mask [true, false, true, true, false, true, true, true, false] <| i_goto X 128
def bX11_drawn_95 (X : jX) : jK := i_mask [true, false, true, true, false, true, true, true, false] <| i_iload 5 <| i_push (.int 1) <| i_aload 0 <| i_getf 11 23 <| i_aload 0 <| i_getf 11 26 <| i_iload 7 <| i_iald <| i_iald <| i_ishl <| i_ior <| i_istore 5 <| i_iload 6 <| i_push (.int 1) <| i_aload 0 <| i_getf 11 26 <| i_iload 7 <| i_iald <| i_ishl <| i_ior <| i_istore 6 <| i_mask [true, false, true, true, false, true, true, true, false] <| i_goto X 128
def bX11_drawn_128 (X : jX) : jK := i_mask [true, false, true, true, false, true, true, true, false] <| i_iinc 7 1 <| i_mask [true, false, true, true, false, true, true, true, false] <| i_goto X 42
def bX11_drawn_134 (X : jX) : jK := i_mask [true, false, true, false, false, true, true, false, false] <| i_iload 2 <| i_push (.int 2) <| i_cmp_ge X 151 139
def bX11_drawn_139 (X : jX) : jK := i_mask [false, false, true, false, false, true, true, false, false] <| i_iload 2 <| i_if_ne X 148 143
def bX11_drawn_143 (X : jX) : jK := i_mask [false, false, false, false, false, true, false, false, false] <| i_iload 5 <| i_mask [false, false, false, false, false, false, false, false, false] <| i_goto X 150
def bX11_drawn_148 (X : jX) : jK := i_mask [false, false, false, false, false, false, true, false, false] <| i_iload 6 <| i_mask [false, false, false, false, false, false, false, false, false] <| i_goto X 150
def bX11_drawn_150 (X : jX) : jK := i_mask [false, false, false, false, false, false, false, false, false] <| i_ireturn X
def bX11_drawn_151 (X : jX) : jK := i_mask [true, false, false, false, false, true, false, false, false] <| i_push (.int 0) <| i_istore 7 <| i_push (.int 0) <| i_istore 8 <| i_mask [true, false, false, false, false, true, false, true, true] <| i_goto X 157
def bX11_drawn_157 (X : jX) : jK := i_mask [true, false, false, false, false, true, false, true, true] <| i_iload 8 <| i_push (.int 6) <| i_cmp_ge X 190 164
def bX11_drawn_164 (X : jX) : jK := i_mask [true, false, false, false, false, true, false, true, true] <| i_iload 7 <| i_iload 5 <| i_iload 8 <| i_ishr <| i_push (.int 1) <| i_iand <| i_aload 0 <| i_getf 11 2 <| i_iload 8 <| i_iald <| i_imul <| i_iadd <| i_istore 7 <| i_iinc 8 1 <| i_mask [true, false, false, false, false, true, false, true, true] <| i_goto X 157
def bX11_drawn_190 (X : jX) : jK := i_mask [false, false, false, false, false, false, false, true, false] <| i_iload 7 <| i_ireturn X
def pX11_drawn : jX → Nat → jK := fun X => jpick [(0, bX11_drawn_0 X), (11, bX11_drawn_11 X), (20, bX11_drawn_20 X), (23, bX11_drawn_23 X), (42, bX11_drawn_42 X), (51, bX11_drawn_51 X), (62, bX11_drawn_62 X), (65, bX11_drawn_65 X), (92, bX11_drawn_92 X), (95, bX11_drawn_95 X), (128, bX11_drawn_128 X), (134, bX11_drawn_134 X), (139, bX11_drawn_139 X), (143, bX11_drawn_143 X), (148, bX11_drawn_148 X), (150, bX11_drawn_150 X), (151, bX11_drawn_151 X), (157, bX11_drawn_157 X), (164, bX11_drawn_164 X), (190, bX11_drawn_190 X)]
def mX11_drawn : jMt := (yX11_drawn, cX11_drawn, 9, (some .int), pX11_drawn)
def bX11_image_0 (X : jX) : jK := i_mask [true, false] <| i_aload 0 <| i_push (.int 1) <| i_putZ 11 47 <| i_aload 0 <| i_aload 0 <| i_getf 11 6 <| i_putI 11 48 <| i_aload 0 <| i_aload 0 <| i_getf 11 33 <| i_putI 11 49 <| i_push (.int 0) <| i_istore 1 <| i_mask [true, true] <| i_goto X 23
def bX11_image_23 (X : jX) : jK := i_mask [true, true] <| i_iload 1 <| i_push (.int 6) <| i_cmp_ge X 59 29
def bX11_image_29 (X : jX) : jK := i_mask [true, true] <| i_aload 0 <| i_getf 11 50 <| i_iload 1 <| i_aload 0 <| i_getf 11 1 <| i_iload 1 <| i_iald <| i_iast <| i_aload 0 <| i_getf 11 51 <| i_iload 1 <| i_aload 0 <| i_getf 11 2 <| i_iload 1 <| i_iald <| i_iast <| i_iinc 1 1 <| i_mask [true, true] <| i_goto X 23
def bX11_image_59 (X : jX) : jK := i_mask [true, false] <| i_push (.int 0) <| i_istore 1 <| i_mask [true, true] <| i_goto X 61
def bX11_image_61 (X : jX) : jK := i_mask [true, true] <| i_iload 1 <| i_push (.int 36) <| i_cmp_ge X 85 67
def bX11_image_67 (X : jX) : jK := i_mask [true, true] <| i_aload 0 <| i_getf 11 52 <| i_iload 1 <| i_aload 0 <| i_getf 11 36 <| i_iload 1 <| i_iald <| i_iast <| i_iinc 1 1 <| i_mask [true, true] <| i_goto X 61
def bX11_image_85 (X : jX) : jK := i_mask [true, false] <| i_aload 0 <| i_getf 11 21 <| i_ireturn X
def pX11_image : jX → Nat → jK := fun X => jpick [(0, bX11_image_0 X), (23, bX11_image_23 X), (29, bX11_image_29 X), (59, bX11_image_59 X), (61, bX11_image_61 X), (67, bX11_image_67 X), (85, bX11_image_85 X)]
def mX11_image : jMt := (yX11_image, cX11_image, 2, (some .int), pX11_image)
def bX11_back_0 (X : jX) : jK := i_mask [true, false, false] <| i_aload 0 <| i_getf 11 47 <| i_if_ne X 10 7
def bX11_back_7 (X : jX) : jK := i_mask [false, false, false] <| i_push (.int (-3)) <| i_ireturn X
def bX11_back_10 (X : jX) : jK := i_mask [true, false, false] <| i_aload 0 <| i_aload 0 <| i_getf 11 48 <| i_putI 11 6 <| i_push (.int 0) <| i_istore 1 <| i_mask [true, true, false] <| i_goto X 20
def bX11_back_20 (X : jX) : jK := i_mask [true, true, false] <| i_iload 1 <| i_push (.int 6) <| i_cmp_ge X 56 26
def bX11_back_26 (X : jX) : jK := i_mask [true, true, false] <| i_aload 0 <| i_getf 11 1 <| i_iload 1 <| i_aload 0 <| i_getf 11 50 <| i_iload 1 <| i_iald <| i_iast <| i_aload 0 <| i_getf 11 2 <| i_iload 1 <| i_aload 0 <| i_getf 11 51 <| i_iload 1 <| i_iald <| i_iast <| i_iinc 1 1 <| i_mask [true, true, false] <| i_goto X 20
def bX11_back_56 (X : jX) : jK := i_mask [true, false, false] <| i_push (.int 0) <| i_istore 1 <| i_mask [true, true, false] <| i_goto X 58
def bX11_back_58 (X : jX) : jK := i_mask [true, true, false] <| i_iload 1 <| i_aload 0 <| i_getf 11 49 <| i_cmp_ge X 110 66
def bX11_back_66 (X : jX) : jK := i_mask [true, true, false] <| i_push (.int 0) <| i_istore 2 <| i_mask [true, true, true] <| i_goto X 68
def bX11_back_68 (X : jX) : jK := i_mask [true, true, true] <| i_iload 2 <| i_aload 0 <| i_getf 11 49 <| i_cmp_ge X 104 76
def bX11_back_76 (X : jX) : jK := i_mask [true, true, true] <| i_aload 0 <| i_getf 11 36 <| i_push (.int 6) <| i_iload 1 <| i_imul <| i_iload 2 <| i_iadd <| i_aload 0 <| i_getf 11 52 <| i_push (.int 6) <| i_iload 1 <| i_imul <| i_iload 2 <| i_iadd <| i_iald <| i_iast <| i_iinc 2 1 <| i_mask [true, true, true] <| i_goto X 68
def bX11_back_104 (X : jX) : jK := i_mask [true, true, false] <| i_iinc 1 1 <| i_mask [true, true, false] <| i_goto X 58
def bX11_back_110 (X : jX) : jK := i_mask [true, false, false] <| i_aload 0 <| i_getf 11 21 <| i_ireturn X
def pX11_back : jX → Nat → jK := fun X => jpick [(0, bX11_back_0 X), (7, bX11_back_7 X), (10, bX11_back_10 X), (20, bX11_back_20 X), (26, bX11_back_26 X), (56, bX11_back_56 X), (58, bX11_back_58 X), (66, bX11_back_66 X), (68, bX11_back_68 X), (76, bX11_back_76 X), (104, bX11_back_104 X), (110, bX11_back_110 X)]
def mX11_back : jMt := (yX11_back, cX11_back, 3, (some .int), pX11_back)
def bX11_isSheet_0 (X : jX) : jK := i_mask [true] <| i_iload 0 <| i_push (.int 0) <| i_push (.int 3) <| i_invS X 159 3 <| i_ireturn X
def pX11_isSheet : jX → Nat → jK := fun X => jpick [(0, bX11_isSheet_0 X)]
def mX11_isSheet : jMt := (yX11_isSheet, cX11_isSheet, 1, (some .boolean), pX11_isSheet)
def bX11_sheet_0 (X : jX) : jK := i_mask [true, true, true, true, false] <| i_iload 1 <| i_invS X 254 1 <| i_if_eq X 16 7
def bX11_sheet_7 (X : jX) : jK := i_mask [true, true, true, true, false] <| i_iload 2 <| i_push (.int (-1)) <| i_push (.int 2) <| i_invS X 159 3 <| i_if_ne X 19 16
def bX11_sheet_16 (X : jX) : jK := i_mask [false, false, false, false, false] <| i_push (.int (-2)) <| i_ireturn X
def bX11_sheet_19 (X : jX) : jK := i_mask [true, true, true, true, false] <| i_iload 2 <| i_push (.int (-1)) <| i_cmp_ne X 33 24
def bX11_sheet_24 (X : jX) : jK := i_mask [true, true, false, false, false] <| i_aload 0 <| i_getf 11 53 <| i_iload 1 <| i_push (.int (-1)) <| i_iast <| i_push (.int 1) <| i_ireturn X
def bX11_sheet_33 (X : jX) : jK := i_mask [true, true, true, true, false] <| i_iload 3 <| i_push (.int 40) <| i_cmp_le X 42 39
def bX11_sheet_39 (X : jX) : jK := i_mask [false, false, false, false, false] <| i_push (.int (-2)) <| i_ireturn X
def bX11_sheet_42 (X : jX) : jK := i_mask [true, true, true, true, false] <| i_iload 3 <| i_if_ge X 49 46
def bX11_sheet_46 (X : jX) : jK := i_mask [false, false, false, false, false] <| i_push (.int (-14)) <| i_ireturn X
def bX11_sheet_49 (X : jX) : jK := i_mask [true, true, true, true, false] <| i_aload 0 <| i_getf 11 53 <| i_iload 1 <| i_iload 2 <| i_iast <| i_aload 0 <| i_getf 11 54 <| i_iload 1 <| i_iload 3 <| i_iast <| i_push (.int 0) <| i_istore 4 <| i_mask [true, true, false, true, true] <| i_goto X 66
def bX11_sheet_66 (X : jX) : jK := i_mask [true, true, false, true, true] <| i_iload 4 <| i_iload 3 <| i_cmp_ge X 91 72
def bX11_sheet_72 (X : jX) : jK := i_mask [true, true, false, true, true] <| i_aload 0 <| i_getf 11 55 <| i_push (.int 40) <| i_iload 1 <| i_imul <| i_iload 4 <| i_iadd <| i_push (.int 0) <| i_iast <| i_iinc 4 1 <| i_mask [true, true, false, true, true] <| i_goto X 66
def bX11_sheet_91 (X : jX) : jK := i_mask [false, false, false, false, false] <| i_push (.int 1) <| i_ireturn X
def pX11_sheet : jX → Nat → jK := fun X => jpick [(0, bX11_sheet_0 X), (7, bX11_sheet_7 X), (16, bX11_sheet_16 X), (19, bX11_sheet_19 X), (24, bX11_sheet_24 X), (33, bX11_sheet_33 X), (39, bX11_sheet_39 X), (42, bX11_sheet_42 X), (46, bX11_sheet_46 X), (49, bX11_sheet_49 X), (66, bX11_sheet_66 X), (72, bX11_sheet_72 X), (91, bX11_sheet_91 X)]
def mX11_sheet : jMt := (yX11_sheet, cX11_sheet, 5, (some .int), pX11_sheet)
def bX11_cell_0 (X : jX) : jK := i_mask [true, true, true, true] <| i_iload 1 <| i_invS X 254 1 <| i_if_ne X 10 7
def bX11_cell_7 (X : jX) : jK := i_mask [false, false, false, false] <| i_push (.int (-2)) <| i_ireturn X
def bX11_cell_10 (X : jX) : jK := i_mask [true, true, true, true] <| i_aload 0 <| i_getf 11 53 <| i_iload 1 <| i_iald <| i_if_ge X 22 19
def bX11_cell_19 (X : jX) : jK := i_mask [false, false, false, false] <| i_push (.int (-11)) <| i_ireturn X
def bX11_cell_22 (X : jX) : jK := i_mask [true, true, true, true] <| i_iload 2 <| i_push (.int 0) <| i_aload 0 <| i_getf 11 54 <| i_iload 1 <| i_iald <| i_push (.int 1) <| i_isub <| i_invS X 159 3 <| i_if_ne X 41 38
def bX11_cell_38 (X : jX) : jK := i_mask [false, false, false, false] <| i_push (.int (-12)) <| i_ireturn X
def bX11_cell_41 (X : jX) : jK := i_mask [true, true, true, true] <| i_aload 0 <| i_getf 11 55 <| i_push (.int 40) <| i_iload 1 <| i_imul <| i_iload 2 <| i_iadd <| i_aload 0 <| i_getf 11 53 <| i_iload 1 <| i_iald <| i_if_ne X 65 60
def bX11_cell_60 (X : jX) : jK := i_mask [false, false, false, true] <| i_iload 3 <| i_i2b <| i_mask [false, false, false, false] <| i_goto X 81
def bX11_cell_65 (X : jX) : jK := i_mask [true, true, false, true] <| i_aload 0 <| i_getf 11 53 <| i_iload 1 <| i_iald <| i_push (.int 1) <| i_cmp_ne X 80 75
def bX11_cell_75 (X : jX) : jK := i_mask [false, false, false, true] <| i_iload 3 <| i_i2s <| i_mask [false, false, false, false] <| i_goto X 81
def bX11_cell_80 (X : jX) : jK := i_mask [false, false, false, true] <| i_iload 3 <| i_mask [false, false, false, false] <| i_goto X 81
def bX11_cell_81 (X : jX) : jK := i_mask [false, false, false, false] <| i_iast <| i_push (.int 1) <| i_ireturn X
def pX11_cell : jX → Nat → jK := fun X => jpick [(0, bX11_cell_0 X), (7, bX11_cell_7 X), (10, bX11_cell_10 X), (19, bX11_cell_19 X), (22, bX11_cell_22 X), (38, bX11_cell_38 X), (41, bX11_cell_41 X), (60, bX11_cell_60 X), (65, bX11_cell_65 X), (75, bX11_cell_75 X), (80, bX11_cell_80 X), (81, bX11_cell_81 X)]
def mX11_cell : jMt := (yX11_cell, cX11_cell, 4, (some .int), pX11_cell)
def bX11_copy_0 (X : jX) : jK := i_mask [true, true, true, true, true, true, false] <| i_iload 1 <| i_invS X 254 1 <| i_if_eq X 14 7
def bX11_copy_7 (X : jX) : jK := i_mask [true, true, true, true, true, true, false] <| i_iload 3 <| i_invS X 254 1 <| i_if_ne X 17 14
def bX11_copy_14 (X : jX) : jK := i_mask [false, false, false, false, false, false, false] <| i_push (.int (-2)) <| i_ireturn X
def bX11_copy_17 (X : jX) : jK := i_mask [true, true, true, true, true, true, false] <| i_aload 0 <| i_getf 11 53 <| i_iload 1 <| i_iald <| i_if_lt X 35 26
def bX11_copy_26 (X : jX) : jK := i_mask [true, true, true, true, true, true, false] <| i_aload 0 <| i_getf 11 53 <| i_iload 3 <| i_iald <| i_if_ge X 38 35
def bX11_copy_35 (X : jX) : jK := i_mask [false, false, false, false, false, false, false] <| i_push (.int (-11)) <| i_ireturn X
def bX11_copy_38 (X : jX) : jK := i_mask [true, true, true, true, true, true, false] <| i_aload 0 <| i_getf 11 53 <| i_iload 1 <| i_iald <| i_aload 0 <| i_getf 11 53 <| i_iload 3 <| i_iald <| i_cmp_eq X 56 53
def bX11_copy_53 (X : jX) : jK := i_mask [false, false, false, false, false, false, false] <| i_push (.int (-13)) <| i_ireturn X
def bX11_copy_56 (X : jX) : jK := i_mask [true, true, true, true, true, true, false] <| i_iload 5 <| i_if_lt X 105 61
def bX11_copy_61 (X : jX) : jK := i_mask [true, true, true, true, true, true, false] <| i_iload 2 <| i_if_lt X 105 65
def bX11_copy_65 (X : jX) : jK := i_mask [true, true, true, true, true, true, false] <| i_iload 4 <| i_if_lt X 105 70
def bX11_copy_70 (X : jX) : jK := i_mask [true, true, true, true, true, true, false] <| i_iload 2 <| i_i2l <| i_iload 5 <| i_i2l <| i_ladd <| i_aload 0 <| i_getf 11 54 <| i_iload 1 <| i_iald <| i_i2l <| i_lcmp <| i_if_gt X 105 87
def bX11_copy_87 (X : jX) : jK := i_mask [true, true, true, true, true, true, false] <| i_iload 4 <| i_i2l <| i_iload 5 <| i_i2l <| i_ladd <| i_aload 0 <| i_getf 11 54 <| i_iload 3 <| i_iald <| i_i2l <| i_lcmp <| i_if_le X 108 105
def bX11_copy_105 (X : jX) : jK := i_mask [false, false, false, false, false, false, false] <| i_push (.int (-12)) <| i_ireturn X
def bX11_copy_108 (X : jX) : jK := i_mask [true, true, true, true, true, true, false] <| i_push (.int 0) <| i_istore 6 <| i_mask [true, true, true, true, true, true, true] <| i_goto X 111
def bX11_copy_111 (X : jX) : jK := i_mask [true, true, true, true, true, true, true] <| i_iload 6 <| i_iload 5 <| i_cmp_ge X 145 118
def bX11_copy_118 (X : jX) : jK := i_mask [true, true, true, true, true, true, true] <| i_aload 0 <| i_getf 11 56 <| i_iload 6 <| i_aload 0 <| i_getf 11 55 <| i_push (.int 40) <| i_iload 1 <| i_imul <| i_iload 2 <| i_iadd <| i_iload 6 <| i_iadd <| i_iald <| i_iast <| i_iinc 6 1 <| i_mask [true, true, true, true, true, true, true] <| i_goto X 111
def bX11_copy_145 (X : jX) : jK := i_mask [true, false, false, true, true, true, false] <| i_push (.int 0) <| i_istore 6 <| i_mask [true, false, false, true, true, true, true] <| i_goto X 148
def bX11_copy_148 (X : jX) : jK := i_mask [true, false, false, true, true, true, true] <| i_iload 6 <| i_iload 5 <| i_cmp_ge X 183 155
def bX11_copy_155 (X : jX) : jK := i_mask [true, false, false, true, true, true, true] <| i_aload 0 <| i_getf 11 55 <| i_push (.int 40) <| i_iload 3 <| i_imul <| i_iload 4 <| i_iadd <| i_iload 6 <| i_iadd <| i_aload 0 <| i_getf 11 56 <| i_iload 6 <| i_iald <| i_iast <| i_iinc 6 1 <| i_mask [true, false, false, true, true, true, true] <| i_goto X 148
def bX11_copy_183 (X : jX) : jK := i_mask [false, false, false, false, false, true, false] <| i_iload 5 <| i_ireturn X
def pX11_copy : jX → Nat → jK := fun X => jpick [(0, bX11_copy_0 X), (7, bX11_copy_7 X), (14, bX11_copy_14 X), (17, bX11_copy_17 X), (26, bX11_copy_26 X), (35, bX11_copy_35 X), (38, bX11_copy_38 X), (53, bX11_copy_53 X), (56, bX11_copy_56 X), (61, bX11_copy_61 X), (65, bX11_copy_65 X), (70, bX11_copy_70 X), (87, bX11_copy_87 X), (105, bX11_copy_105 X), (108, bX11_copy_108 X), (111, bX11_copy_111 X), (118, bX11_copy_118 X), (145, bX11_copy_145 X), (148, bX11_copy_148 X), (155, bX11_copy_155 X), (183, bX11_copy_183 X)]
def mX11_copy : jMt := (yX11_copy, cX11_copy, 7, (some .int), pX11_copy)
def bX11_sayingsBy_0 (X : jX) : jK := i_mask [true, true, true, true, true, false, false, false, false, false] <| i_iload 1 <| i_invS X 254 1 <| i_if_eq X 27 7
def bX11_sayingsBy_7 (X : jX) : jK := i_mask [true, true, true, true, true, false, false, false, false, false] <| i_iload 2 <| i_push (.int 0) <| i_push (.int 2) <| i_invS X 159 3 <| i_if_eq X 27 16
def bX11_sayingsBy_16 (X : jX) : jK := i_mask [true, true, true, true, true, false, false, false, false, false] <| i_iload 4 <| i_push (.int 0) <| i_push (.int 8) <| i_invS X 159 3 <| i_if_ne X 30 27
def bX11_sayingsBy_27 (X : jX) : jK := i_mask [false, false, false, false, false, false, false, false, false, false] <| i_push (.int (-2)) <| i_ireturn X
def bX11_sayingsBy_30 (X : jX) : jK := i_mask [true, true, true, true, true, false, false, false, false, false] <| i_aload 0 <| i_getf 11 53 <| i_iload 1 <| i_iald <| i_if_ge X 42 39
def bX11_sayingsBy_39 (X : jX) : jK := i_mask [false, false, false, false, false, false, false, false, false, false] <| i_push (.int (-11)) <| i_ireturn X
def bX11_sayingsBy_42 (X : jX) : jK := i_mask [true, true, true, true, true, false, false, false, false, false] <| i_aload 0 <| i_getf 11 53 <| i_iload 1 <| i_iald <| i_iload 2 <| i_cmp_eq X 55 52
def bX11_sayingsBy_52 (X : jX) : jK := i_mask [false, false, false, false, false, false, false, false, false, false] <| i_push (.int (-13)) <| i_ireturn X
def bX11_sayingsBy_55 (X : jX) : jK := i_mask [true, true, false, true, true, false, false, false, false, false] <| i_push (.int 0) <| i_istore 5 <| i_push (.int 0) <| i_istore 6 <| i_mask [true, true, false, true, true, true, true, false, false, false] <| i_goto X 61
def bX11_sayingsBy_61 (X : jX) : jK := i_mask [true, true, false, true, true, true, true, false, false, false] <| i_iload 6 <| i_iload 4 <| i_cmp_ge X 156 68
def bX11_sayingsBy_68 (X : jX) : jK := i_mask [true, true, false, true, true, true, true, false, false, false] <| i_iload 3 <| i_i2l <| i_push (.int 3) <| i_iload 6 <| i_imul <| i_i2l <| i_ladd <| i_lstore 7 <| i_lload 7 <| i_push (.long 0) <| i_lcmp <| i_if_lt X 102 85
def bX11_sayingsBy_85 (X : jX) : jK := i_mask [true, true, false, true, true, true, true, true, false, false] <| i_lload 7 <| i_push (.long 2) <| i_ladd <| i_aload 0 <| i_getf 11 54 <| i_iload 1 <| i_iald <| i_i2l <| i_lcmp <| i_if_lt X 105 102
def bX11_sayingsBy_102 (X : jX) : jK := i_mask [false, false, false, false, false, false, false, false, false, false] <| i_push (.int (-12)) <| i_ireturn X
def bX11_sayingsBy_105 (X : jX) : jK := i_mask [true, true, false, true, true, true, true, true, false, false] <| i_push (.int 40) <| i_iload 1 <| i_imul <| i_lload 7 <| i_l2i <| i_iadd <| i_istore 9 <| i_aload 0 <| i_aload 0 <| i_getf 11 55 <| i_iload 9 <| i_iald <| i_aload 0 <| i_getf 11 55 <| i_iload 9 <| i_push (.int 1) <| i_iadd <| i_iald <| i_aload 0 <| i_getf 11 55 <| i_iload 9 <| i_push (.int 2) <| i_iadd <| i_iald <| i_invV X 194 3 11 <| i_if_lt X 150 147
def bX11_sayingsBy_147 (X : jX) : jK := i_mask [true, true, false, true, true, true, true, false, false, false] <| i_iinc 5 1 <| i_mask [true, true, false, true, true, true, true, false, false, false] <| i_goto X 150
def bX11_sayingsBy_150 (X : jX) : jK := i_mask [true, true, false, true, true, true, true, false, false, false] <| i_iinc 6 1 <| i_mask [true, true, false, true, true, true, true, false, false, false] <| i_goto X 61
def bX11_sayingsBy_156 (X : jX) : jK := i_mask [false, false, false, false, false, true, false, false, false, false] <| i_iload 5 <| i_ireturn X
def pX11_sayingsBy : jX → Nat → jK := fun X => jpick [(0, bX11_sayingsBy_0 X), (7, bX11_sayingsBy_7 X), (16, bX11_sayingsBy_16 X), (27, bX11_sayingsBy_27 X), (30, bX11_sayingsBy_30 X), (39, bX11_sayingsBy_39 X), (42, bX11_sayingsBy_42 X), (52, bX11_sayingsBy_52 X), (55, bX11_sayingsBy_55 X), (61, bX11_sayingsBy_61 X), (68, bX11_sayingsBy_68 X), (85, bX11_sayingsBy_85 X), (102, bX11_sayingsBy_102 X), (105, bX11_sayingsBy_105 X), (147, bX11_sayingsBy_147 X), (150, bX11_sayingsBy_150 X), (156, bX11_sayingsBy_156 X)]
def mX11_sayingsBy : jMt := (yX11_sayingsBy, cX11_sayingsBy, 10, (some .int), pX11_sayingsBy)
def bX11_isUnder_0 (X : jX) : jK := i_mask [true, true] <| i_iload 1 <| i_if_eq X 29 4
def bX11_isUnder_4 (X : jX) : jK := i_mask [true, true] <| i_iload 0 <| i_iload 1 <| i_cmp_eq X 29 9
def bX11_isUnder_9 (X : jX) : jK := i_mask [true, true] <| i_iload 1 <| i_push (.int 1) <| i_cmp_ne X 19 14
def bX11_isUnder_14 (X : jX) : jK := i_mask [true, true] <| i_iload 0 <| i_push (.int 3) <| i_cmp_eq X 29 19
def bX11_isUnder_19 (X : jX) : jK := i_mask [true, true] <| i_iload 1 <| i_push (.int 4) <| i_cmp_ne X 33 24
def bX11_isUnder_24 (X : jX) : jK := i_mask [true, false] <| i_iload 0 <| i_push (.int 5) <| i_cmp_ne X 33 29
def bX11_isUnder_29 (X : jX) : jK := i_mask [false, false] <| i_push (.int 1) <| i_mask [false, false] <| i_goto X 34
def bX11_isUnder_33 (X : jX) : jK := i_mask [false, false] <| i_push (.int 0) <| i_mask [false, false] <| i_goto X 34
def bX11_isUnder_34 (X : jX) : jK := i_mask [false, false] <| i_ireturn X
def pX11_isUnder : jX → Nat → jK := fun X => jpick [(0, bX11_isUnder_0 X), (4, bX11_isUnder_4 X), (9, bX11_isUnder_9 X), (14, bX11_isUnder_14 X), (19, bX11_isUnder_19 X), (24, bX11_isUnder_24 X), (29, bX11_isUnder_29 X), (33, bX11_isUnder_33 X), (34, bX11_isUnder_34 X)]
def mX11_isUnder : jMt := (yX11_isUnder, cX11_isUnder, 2, (some .boolean), pX11_isUnder)
def bX11_taken_0 (X : jX) : jK := i_mask [true, true, true] <| i_iload 2 <| i_push (.int 0) <| i_push (.int 6) <| i_invS X 159 3 <| i_if_ne X 13 10
def bX11_taken_10 (X : jX) : jK := i_mask [false, false, false] <| i_push (.int (-2)) <| i_ireturn X
def bX11_taken_13 (X : jX) : jK := i_mask [true, true, true] <| i_iload 1 <| i_push (.int 0) <| i_push (.int 13) <| i_invS X 159 3 <| i_if_ne X 26 23
def bX11_taken_23 (X : jX) : jK := i_mask [false, false, false] <| i_push (.int (-12)) <| i_ireturn X
def bX11_taken_26 (X : jX) : jK := i_mask [true, true, true] <| i_iload 1 <| i_push (.int 6) <| i_cmp_ge X 61 32
def bX11_taken_32 (X : jX) : jK := i_mask [true, true, true] <| i_aload 0 <| i_iload 1 <| i_invV X 212 1 11 <| i_if_ne X 43 40
def bX11_taken_40 (X : jX) : jK := i_mask [false, false, false] <| i_push (.int (-11)) <| i_ireturn X
def bX11_taken_43 (X : jX) : jK := i_mask [true, true, true] <| i_iload 2 <| i_push (.int 6) <| i_cmp_ne X 58 49
def bX11_taken_49 (X : jX) : jK := i_mask [true, true, false] <| i_aload 0 <| i_getf 11 34 <| i_iload 1 <| i_iald <| i_mask [false, false, false] <| i_goto X 60
def bX11_taken_58 (X : jX) : jK := i_mask [false, false, false] <| i_push (.int (-13)) <| i_mask [false, false, false] <| i_goto X 60
def bX11_taken_60 (X : jX) : jK := i_mask [false, false, false] <| i_ireturn X
def bX11_taken_61 (X : jX) : jK := i_mask [true, true, true] <| i_aload 0 <| i_iload 1 <| i_push (.int 6) <| i_isub <| i_invV X 193 1 11 <| i_if_ne X 75 72
def bX11_taken_72 (X : jX) : jK := i_mask [false, false, false] <| i_push (.int (-11)) <| i_ireturn X
def bX11_taken_75 (X : jX) : jK := i_mask [true, true, true] <| i_iload 2 <| i_push (.int 6) <| i_cmp_ge X 104 81
def bX11_taken_81 (X : jX) : jK := i_mask [true, true, true] <| i_aload 0 <| i_getf 11 22 <| i_iload 1 <| i_push (.int 6) <| i_isub <| i_iald <| i_iload 2 <| i_invS X 259 2 <| i_if_eq X 104 97
def bX11_taken_97 (X : jX) : jK := i_mask [false, true, false] <| i_iload 1 <| i_push (.int 6) <| i_isub <| i_mask [false, false, false] <| i_goto X 106
def bX11_taken_104 (X : jX) : jK := i_mask [false, false, false] <| i_push (.int (-13)) <| i_mask [false, false, false] <| i_goto X 106
def bX11_taken_106 (X : jX) : jK := i_mask [false, false, false] <| i_ireturn X
def pX11_taken : jX → Nat → jK := fun X => jpick [(0, bX11_taken_0 X), (10, bX11_taken_10 X), (13, bX11_taken_13 X), (23, bX11_taken_23 X), (26, bX11_taken_26 X), (32, bX11_taken_32 X), (40, bX11_taken_40 X), (43, bX11_taken_43 X), (49, bX11_taken_49 X), (58, bX11_taken_58 X), (60, bX11_taken_60 X), (61, bX11_taken_61 X), (72, bX11_taken_72 X), (75, bX11_taken_75 X), (81, bX11_taken_81 X), (97, bX11_taken_97 X), (104, bX11_taken_104 X), (106, bX11_taken_106 X)]
def mX11_taken : jMt := (yX11_taken, cX11_taken, 3, (some .int), pX11_taken)
def bJ0_length_8abf5_0 (X : jX) : jK := i_mask [true] <| i_aload 0 <| i_getS 0 <| i_alen <| i_aload 0 <| i_invT X 265 0 <| i_ishr <| i_ireturn X
def pJ0_length_8abf5 : jX → Nat → jK := fun X => jpick [(0, bJ0_length_8abf5_0 X)]
def mJ0_length_8abf5 : jMt := (yJ0_length_8abf5, cJ0_length_8abf5, 1, (some .int), pJ0_length_8abf5)
def bJ0_charAt_5068e_0 (X : jX) : jK := i_mask [true, true] <| i_aload 0 <| i_invT X 266 0 <| i_if_eq X 16 7
def bJ0_charAt_5068e_7 (X : jX) : jK := i_mask [true, true] <| i_aload 0 <| i_getS 0 <| i_iload 1 <| i_invS X 268 2 <| i_ireturn X
def bJ0_charAt_5068e_16 (X : jX) : jK := i_no
def pJ0_charAt_5068e : jX → Nat → jK := fun X => jpick [(0, bJ0_charAt_5068e_0 X), (7, bJ0_charAt_5068e_7 X), (16, bJ0_charAt_5068e_16 X)]
def mJ0_charAt_5068e : jMt := (yJ0_charAt_5068e, cJ0_charAt_5068e, 2, (some .char), pJ0_charAt_5068e)
def bJ0_indexOf_0f7a4_0 (X : jX) : jK := i_mask [true, true] <| i_aload 0 <| i_iload 1 <| i_push (.int 0) <| i_invT X 264 2 <| i_ireturn X
def pJ0_indexOf_0f7a4 : jX → Nat → jK := fun X => jpick [(0, bJ0_indexOf_0f7a4_0 X)]
def mJ0_indexOf_0f7a4 : jMt := (yJ0_indexOf_0f7a4, cJ0_indexOf_0f7a4, 2, (some .int), pJ0_indexOf_0f7a4)
def bJ0_indexOf_7cf53_0 (X : jX) : jK := i_mask [true, true, true] <| i_aload 0 <| i_invT X 266 0 <| i_if_eq X 23 7
def bJ0_indexOf_7cf53_7 (X : jX) : jK := i_mask [true, true, true] <| i_aload 0 <| i_getS 0 <| i_iload 1 <| i_iload 2 <| i_aload 0 <| i_invT X 261 0 <| i_invS X 270 4 <| i_mask [false, false, false] <| i_goto X 36
def bJ0_indexOf_7cf53_23 (X : jX) : jK := i_no
def bJ0_indexOf_7cf53_36 (X : jX) : jK := i_mask [false, false, false] <| i_ireturn X
def pJ0_indexOf_7cf53 : jX → Nat → jK := fun X => jpick [(0, bJ0_indexOf_7cf53_0 X), (7, bJ0_indexOf_7cf53_7 X), (23, bJ0_indexOf_7cf53_23 X), (36, bJ0_indexOf_7cf53_36 X)]
def mJ0_indexOf_7cf53 : jMt := (yJ0_indexOf_7cf53, cJ0_indexOf_7cf53, 3, (some .int), pJ0_indexOf_7cf53)
def bJ0_coder_7d493_0 (X : jX) : jK := i_mask [true] <| i_push (.int 1) <| i_if_eq X 13 6
def bJ0_coder_7d493_6 (X : jX) : jK := i_mask [true] <| i_aload 0 <| i_getS 1 <| i_mask [false] <| i_goto X 14
def bJ0_coder_7d493_13 (X : jX) : jK := i_mask [false] <| i_push (.int 1) <| i_mask [false] <| i_goto X 14
def bJ0_coder_7d493_14 (X : jX) : jK := i_mask [false] <| i_ireturn X
def pJ0_coder_7d493 : jX → Nat → jK := fun X => jpick [(0, bJ0_coder_7d493_0 X), (6, bJ0_coder_7d493_6 X), (13, bJ0_coder_7d493_13 X), (14, bJ0_coder_7d493_14 X)]
def mJ0_coder_7d493 : jMt := (yJ0_coder_7d493, cJ0_coder_7d493, 1, (some .byte), pJ0_coder_7d493)
def bJ0_isLatin1_aae02_0 (X : jX) : jK := i_mask [true] <| i_push (.int 1) <| i_if_eq X 17 6
def bJ0_isLatin1_aae02_6 (X : jX) : jK := i_mask [true] <| i_aload 0 <| i_getS 1 <| i_if_ne X 17 13
def bJ0_isLatin1_aae02_13 (X : jX) : jK := i_mask [false] <| i_push (.int 1) <| i_mask [false] <| i_goto X 18
def bJ0_isLatin1_aae02_17 (X : jX) : jK := i_mask [false] <| i_push (.int 0) <| i_mask [false] <| i_goto X 18
def bJ0_isLatin1_aae02_18 (X : jX) : jK := i_mask [false] <| i_ireturn X
def pJ0_isLatin1_aae02 : jX → Nat → jK := fun X => jpick [(0, bJ0_isLatin1_aae02_0 X), (6, bJ0_isLatin1_aae02_6 X), (13, bJ0_isLatin1_aae02_13 X), (17, bJ0_isLatin1_aae02_17 X), (18, bJ0_isLatin1_aae02_18 X)]
def mJ0_isLatin1_aae02 : jMt := (yJ0_isLatin1_aae02, cJ0_isLatin1_aae02, 1, (some .boolean), pJ0_isLatin1_aae02)
def bJ0_checkIndex_df160_0 (X : jX) : jK := i_mask [true, true] <| i_iload 0 <| i_iload 1 <| i_fmt <| i_invS X 272 3 <| i_pop <| i_return X
def pJ0_checkIndex_df160 : jX → Nat → jK := fun X => jpick [(0, bJ0_checkIndex_df160_0 X)]
def mJ0_checkIndex_df160 : jMt := (yJ0_checkIndex_df160, cJ0_checkIndex_df160, 2, none, pJ0_checkIndex_df160)
def bJ1_charAt_3b067_0 (X : jX) : jK := i_mask [true, true] <| i_iload 1 <| i_aload 0 <| i_alen <| i_invS X 267 2 <| i_aload 0 <| i_iload 1 <| i_bald <| i_push (.int 255) <| i_iand <| i_i2c <| i_ireturn X
def pJ1_charAt_3b067 : jX → Nat → jK := fun X => jpick [(0, bJ1_charAt_3b067_0 X)]
def mJ1_charAt_3b067 : jMt := (yJ1_charAt_3b067, cJ1_charAt_3b067, 2, (some .char), pJ1_charAt_3b067)
def bJ1_canEncode_9a6ad_0 (X : jX) : jK := i_mask [true] <| i_iload 0 <| i_if_lt X 15 4
def bJ1_canEncode_9a6ad_4 (X : jX) : jK := i_mask [true] <| i_iload 0 <| i_push (.int 255) <| i_cmp_gt X 15 11
def bJ1_canEncode_9a6ad_11 (X : jX) : jK := i_mask [false] <| i_push (.int 1) <| i_mask [false] <| i_goto X 16
def bJ1_canEncode_9a6ad_15 (X : jX) : jK := i_mask [false] <| i_push (.int 0) <| i_mask [false] <| i_goto X 16
def bJ1_canEncode_9a6ad_16 (X : jX) : jK := i_mask [false] <| i_ireturn X
def pJ1_canEncode_9a6ad : jX → Nat → jK := fun X => jpick [(0, bJ1_canEncode_9a6ad_0 X), (4, bJ1_canEncode_9a6ad_4 X), (11, bJ1_canEncode_9a6ad_11 X), (15, bJ1_canEncode_9a6ad_15 X), (16, bJ1_canEncode_9a6ad_16 X)]
def mJ1_canEncode_9a6ad : jMt := (yJ1_canEncode_9a6ad, cJ1_canEncode_9a6ad, 1, (some .boolean), pJ1_canEncode_9a6ad)
def bJ1_indexOf_4cfef_0 (X : jX) : jK := i_mask [true, true, true, true] <| i_iload 1 <| i_invS X 269 1 <| i_if_ne X 9 7
def bJ1_indexOf_4cfef_7 (X : jX) : jK := i_mask [false, false, false, false] <| i_push (.int (-1)) <| i_ireturn X
def bJ1_indexOf_4cfef_9 (X : jX) : jK := i_mask [true, true, true, true] <| i_iload 2 <| i_push (.int 0) <| i_mmax X <| i_istore 2 <| i_iload 3 <| i_aload 0 <| i_alen <| i_mmin X <| i_istore 3 <| i_iload 2 <| i_iload 3 <| i_cmp_lt X 29 27
def bJ1_indexOf_4cfef_27 (X : jX) : jK := i_mask [false, false, false, false] <| i_push (.int (-1)) <| i_ireturn X
def bJ1_indexOf_4cfef_29 (X : jX) : jK := i_mask [true, true, true, true] <| i_aload 0 <| i_iload 1 <| i_iload 2 <| i_iload 3 <| i_invS X 271 4 <| i_ireturn X
def pJ1_indexOf_4cfef : jX → Nat → jK := fun X => jpick [(0, bJ1_indexOf_4cfef_0 X), (7, bJ1_indexOf_4cfef_7 X), (9, bJ1_indexOf_4cfef_9 X), (27, bJ1_indexOf_4cfef_27 X), (29, bJ1_indexOf_4cfef_29 X)]
def mJ1_indexOf_4cfef : jMt := (yJ1_indexOf_4cfef, cJ1_indexOf_4cfef, 4, (some .int), pJ1_indexOf_4cfef)
def bJ1_indexOfChar_4cfef_0 (X : jX) : jK := i_mask [true, true, true, true, false, false] <| i_iload 1 <| i_i2b <| i_istore 4 <| i_iload 2 <| i_istore 5 <| i_mask [true, false, false, true, true, true] <| i_goto X 7
def bJ1_indexOfChar_4cfef_7 (X : jX) : jK := i_mask [true, false, false, true, true, true] <| i_iload 5 <| i_iload 3 <| i_cmp_ge X 31 13
def bJ1_indexOfChar_4cfef_13 (X : jX) : jK := i_mask [true, false, false, true, true, true] <| i_aload 0 <| i_iload 5 <| i_bald <| i_iload 4 <| i_cmp_ne X 25 22
def bJ1_indexOfChar_4cfef_22 (X : jX) : jK := i_mask [false, false, false, false, false, true] <| i_iload 5 <| i_ireturn X
def bJ1_indexOfChar_4cfef_25 (X : jX) : jK := i_mask [true, false, false, true, true, true] <| i_iinc 5 1 <| i_mask [true, false, false, true, true, true] <| i_goto X 7
def bJ1_indexOfChar_4cfef_31 (X : jX) : jK := i_mask [false, false, false, false, false, false] <| i_push (.int (-1)) <| i_ireturn X
def pJ1_indexOfChar_4cfef : jX → Nat → jK := fun X => jpick [(0, bJ1_indexOfChar_4cfef_0 X), (7, bJ1_indexOfChar_4cfef_7 X), (13, bJ1_indexOfChar_4cfef_13 X), (22, bJ1_indexOfChar_4cfef_22 X), (25, bJ1_indexOfChar_4cfef_25 X), (31, bJ1_indexOfChar_4cfef_31 X)]
def mJ1_indexOfChar_4cfef : jMt := (yJ1_indexOfChar_4cfef, cJ1_indexOfChar_4cfef, 6, (some .int), pJ1_indexOfChar_4cfef)
def bJ3_checkIndex_8e157_0 (X : jX) : jK := i_mask [true, true, true] <| i_iload 0 <| i_if_lt X 9 4
def bJ3_checkIndex_8e157_4 (X : jX) : jK := i_mask [true, true, true] <| i_iload 0 <| i_iload 1 <| i_cmp_lt X 16 9
def bJ3_checkIndex_8e157_9 (X : jX) : jK := i_no
def bJ3_checkIndex_8e157_16 (X : jX) : jK := i_mask [true, false, false] <| i_iload 0 <| i_ireturn X
def pJ3_checkIndex_8e157 : jX → Nat → jK := fun X => jpick [(0, bJ3_checkIndex_8e157_0 X), (4, bJ3_checkIndex_8e157_4 X), (9, bJ3_checkIndex_8e157_9 X), (16, bJ3_checkIndex_8e157_16 X)]
def mJ3_checkIndex_8e157 : jMt := (yJ3_checkIndex_8e157, cJ3_checkIndex_8e157, 3, (some .int), pJ3_checkIndex_8e157)
def bJ6_bitCount_0f7a4_0 (X : jX) : jK := i_mask [true] <| i_iload 0 <| i_iload 0 <| i_push (.int 1) <| i_iushr <| i_push (.int 1431655765) <| i_iand <| i_isub <| i_istore 0 <| i_iload 0 <| i_push (.int 858993459) <| i_iand <| i_iload 0 <| i_push (.int 2) <| i_iushr <| i_push (.int 858993459) <| i_iand <| i_iadd <| i_istore 0 <| i_iload 0 <| i_iload 0 <| i_push (.int 4) <| i_iushr <| i_iadd <| i_push (.int 252645135) <| i_iand <| i_istore 0 <| i_iload 0 <| i_iload 0 <| i_push (.int 8) <| i_iushr <| i_iadd <| i_istore 0 <| i_iload 0 <| i_iload 0 <| i_push (.int 16) <| i_iushr <| i_iadd <| i_istore 0 <| i_iload 0 <| i_push (.int 63) <| i_mask [false] <| i_goto X 51
def bJ6_bitCount_0f7a4_51 (X : jX) : jK := i_mask [false] <| i_iand <| i_ireturn X
def pJ6_bitCount_0f7a4 : jX → Nat → jK := fun X => jpick [(0, bJ6_bitCount_0f7a4_0 X), (51, bJ6_bitCount_0f7a4_51 X)]
def mJ6_bitCount_0f7a4 : jMt := (yJ6_bitCount_0f7a4, cJ6_bitCount_0f7a4, 1, (some .int), pJ6_bitCount_0f7a4)
def bJ13_bitCount_95d88_0 (X : jX) : jK := i_mask [true, false] <| i_lload 0 <| i_lload 0 <| i_push (.int 1) <| i_lushr <| i_push (.long 6148914691236517205) <| i_land <| i_lsub <| i_lstore 0 <| i_lload 0 <| i_push (.long 3689348814741910323) <| i_land <| i_lload 0 <| i_push (.int 2) <| i_lushr <| i_push (.long 3689348814741910323) <| i_land <| i_ladd <| i_lstore 0 <| i_lload 0 <| i_lload 0 <| i_push (.int 4) <| i_lushr <| i_ladd <| i_push (.long 1085102592571150095) <| i_land <| i_lstore 0 <| i_lload 0 <| i_lload 0 <| i_push (.int 8) <| i_lushr <| i_ladd <| i_lstore 0 <| i_lload 0 <| i_lload 0 <| i_push (.int 16) <| i_lushr <| i_ladd <| i_lstore 0 <| i_lload 0 <| i_lload 0 <| i_mask [false, false] <| i_goto X 50
def bJ13_bitCount_95d88_50 (X : jX) : jK := i_mask [false, false] <| i_push (.int 32) <| i_lushr <| i_ladd <| i_lstore 0 <| i_lload 0 <| i_l2i <| i_push (.int 127) <| i_iand <| i_ireturn X
def pJ13_bitCount_95d88 : jX → Nat → jK := fun X => jpick [(0, bJ13_bitCount_95d88_0 X), (50, bJ13_bitCount_95d88_50 X)]
def mJ13_bitCount_95d88 : jMt := (yJ13_bitCount_95d88, cJ13_bitCount_95d88, 2, (some .int), pJ13_bitCount_95d88)
def bJ7_fill_53178_0 (X : jX) : jK := i_mask [true, true, false, false] <| i_push (.int 0) <| i_istore 2 <| i_aload 0 <| i_alen <| i_istore 3 <| i_mask [true, true, true, true] <| i_goto X 5
def bJ7_fill_53178_5 (X : jX) : jK := i_mask [true, true, true, true] <| i_iload 2 <| i_iload 3 <| i_cmp_ge X 20 10
def bJ7_fill_53178_10 (X : jX) : jK := i_mask [true, true, true, true] <| i_aload 0 <| i_iload 2 <| i_iload 1 <| i_iast <| i_iinc 2 1 <| i_mask [true, true, true, true] <| i_goto X 5
def bJ7_fill_53178_20 (X : jX) : jK := i_mask [false, false, false, false] <| i_return X
def pJ7_fill_53178 : jX → Nat → jK := fun X => jpick [(0, bJ7_fill_53178_0 X), (5, bJ7_fill_53178_5 X), (10, bJ7_fill_53178_10 X), (20, bJ7_fill_53178_20 X)]
def mJ7_fill_53178 : jMt := (yJ7_fill_53178, cJ7_fill_53178, 4, none, pJ7_fill_53178)
def bL_law_0 (X : jX) : jK := i_mask [true, false, false, false] <| i_new X 10 dsX10 <| i_dup <| i_invI X 107 0 <| i_astore 1 <| i_new X 11 dsX11 <| i_dup <| i_invI X 158 0 <| i_astore 2 <| i_push (.int 0) <| i_istore 3 <| i_mask [true, true, true, true] <| i_goto X 18
def bL_law_18 (X : jX) : jK := i_mask [true, true, true, true] <| i_iload 3 <| i_aload 0 <| i_alen <| i_push (.int 7) <| i_isub <| i_cmp_gt X 1821 27
def bL_law_27 (X : jX) : jK := i_mask [true, true, true, true] <| i_aload 0 <| i_iload 3 <| i_iald <| i_push (.int 63) <| i_iand <| i_sw X [(0, 224), (1, 257), (2, 290), (3, 313), (4, 336), (5, 399), (6, 412), (7, 435), (8, 478), (9, 521), (10, 564), (11, 588), (12, 621), (13, 645), (14, 669), (15, 682), (16, 695), (17, 728), (18, 771), (19, 815), (20, 838), (21, 871), (22, 904), (23, 947), (24, 1001), (25, 1054), (26, 1087), (27, 1110), (28, 1133), (29, 1166), (30, 1210), (31, 1253), (32, 1349), (33, 1392), (34, 1435), (35, 1478), (36, 1521), (37, 1554), (38, 1567), (39, 1580), (40, 1623), (41, 1666), (42, 1729), (43, 1782)] 1815
def bL_law_224 (X : jX) : jK := i_mask [true, true, true, true] <| i_aload 1 <| i_aload 0 <| i_iload 3 <| i_push (.int 1) <| i_iadd <| i_iald <| i_aload 0 <| i_iload 3 <| i_push (.int 2) <| i_iadd <| i_iald <| i_invV X 108 2 10 <| i_aload 2 <| i_aload 0 <| i_iload 3 <| i_push (.int 1) <| i_iadd <| i_iald <| i_aload 0 <| i_iload 3 <| i_push (.int 2) <| i_iadd <| i_iald <| i_invV X 164 2 11 <| i_cmp_eq X 1815 255
def bL_law_255 (X : jX) : jK := i_mask [false, false, false, false] <| i_push (.int 0) <| i_ireturn X
def bL_law_257 (X : jX) : jK := i_mask [true, true, true, true] <| i_aload 1 <| i_aload 0 <| i_iload 3 <| i_push (.int 1) <| i_iadd <| i_iald <| i_aload 0 <| i_iload 3 <| i_push (.int 2) <| i_iadd <| i_iald <| i_invV X 109 2 10 <| i_aload 2 <| i_aload 0 <| i_iload 3 <| i_push (.int 1) <| i_iadd <| i_iald <| i_aload 0 <| i_iload 3 <| i_push (.int 2) <| i_iadd <| i_iald <| i_invV X 165 2 11 <| i_cmp_eq X 1815 288
def bL_law_288 (X : jX) : jK := i_mask [false, false, false, false] <| i_push (.int 0) <| i_ireturn X
def bL_law_290 (X : jX) : jK := i_mask [true, true, true, true] <| i_aload 1 <| i_aload 0 <| i_iload 3 <| i_push (.int 1) <| i_iadd <| i_iald <| i_invV X 110 1 10 <| i_aload 2 <| i_aload 0 <| i_iload 3 <| i_push (.int 1) <| i_iadd <| i_iald <| i_invV X 166 1 11 <| i_cmp_eq X 1815 311
def bL_law_311 (X : jX) : jK := i_mask [false, false, false, false] <| i_push (.int 0) <| i_ireturn X
def bL_law_313 (X : jX) : jK := i_mask [true, true, true, true] <| i_aload 1 <| i_aload 0 <| i_iload 3 <| i_push (.int 1) <| i_iadd <| i_iald <| i_invV X 111 1 10 <| i_aload 2 <| i_aload 0 <| i_iload 3 <| i_push (.int 1) <| i_iadd <| i_iald <| i_invV X 169 1 11 <| i_cmp_eq X 1815 334
def bL_law_334 (X : jX) : jK := i_mask [false, false, false, false] <| i_push (.int 0) <| i_ireturn X
def bL_law_336 (X : jX) : jK := i_mask [true, true, true, true] <| i_aload 1 <| i_aload 0 <| i_iload 3 <| i_push (.int 1) <| i_iadd <| i_iald <| i_i2l <| i_push (.int 32) <| i_lshl <| i_aload 0 <| i_iload 3 <| i_push (.int 2) <| i_iadd <| i_iald <| i_i2l <| i_push (.long 4294967295) <| i_land <| i_lor <| i_aload 0 <| i_iload 3 <| i_push (.int 3) <| i_iadd <| i_iald <| i_invV X 112 2 10 <| i_aload 2 <| i_aload 0 <| i_iload 3 <| i_push (.int 1) <| i_iadd <| i_iald <| i_i2l <| i_push (.int 32) <| i_lshl <| i_aload 0 <| i_iload 3 <| i_push (.int 2) <| i_iadd <| i_iald <| i_i2l <| i_push (.long 4294967295) <| i_mask [true, true, true, true] <| i_goto X 384
def bL_law_384 (X : jX) : jK := i_mask [true, true, true, true] <| i_land <| i_lor <| i_aload 0 <| i_iload 3 <| i_push (.int 3) <| i_iadd <| i_iald <| i_invV X 170 2 11 <| i_cmp_eq X 1815 397
def bL_law_397 (X : jX) : jK := i_mask [false, false, false, false] <| i_push (.int 0) <| i_ireturn X
def bL_law_399 (X : jX) : jK := i_mask [true, true, true, true] <| i_aload 1 <| i_invV X 113 0 10 <| i_aload 2 <| i_invV X 187 0 11 <| i_cmp_eq X 1815 410
def bL_law_410 (X : jX) : jK := i_mask [false, false, false, false] <| i_push (.int 0) <| i_ireturn X
def bL_law_412 (X : jX) : jK := i_mask [true, true, true, true] <| i_aload 1 <| i_aload 0 <| i_iload 3 <| i_push (.int 1) <| i_iadd <| i_iald <| i_invV X 114 1 10 <| i_aload 2 <| i_aload 0 <| i_iload 3 <| i_push (.int 1) <| i_iadd <| i_iald <| i_invV X 188 1 11 <| i_cmp_eq X 1815 433
def bL_law_433 (X : jX) : jK := i_mask [false, false, false, false] <| i_push (.int 0) <| i_ireturn X
def bL_law_435 (X : jX) : jK := i_mask [true, true, true, true] <| i_aload 1 <| i_aload 0 <| i_iload 3 <| i_push (.int 1) <| i_iadd <| i_iald <| i_aload 0 <| i_iload 3 <| i_push (.int 2) <| i_iadd <| i_iald <| i_aload 0 <| i_iload 3 <| i_push (.int 3) <| i_iadd <| i_iald <| i_invV X 115 3 10 <| i_aload 2 <| i_aload 0 <| i_iload 3 <| i_push (.int 1) <| i_iadd <| i_iald <| i_aload 0 <| i_iload 3 <| i_push (.int 2) <| i_iadd <| i_iald <| i_aload 0 <| i_iload 3 <| i_push (.int 3) <| i_iadd <| i_iald <| i_invV X 192 3 11 <| i_cmp_eq X 1815 476
def bL_law_476 (X : jX) : jK := i_mask [false, false, false, false] <| i_push (.int 0) <| i_ireturn X
def bL_law_478 (X : jX) : jK := i_mask [true, true, true, true] <| i_aload 1 <| i_aload 0 <| i_iload 3 <| i_push (.int 1) <| i_iadd <| i_iald <| i_aload 0 <| i_iload 3 <| i_push (.int 2) <| i_iadd <| i_iald <| i_aload 0 <| i_iload 3 <| i_push (.int 3) <| i_iadd <| i_iald <| i_invV X 116 3 10 <| i_aload 2 <| i_aload 0 <| i_iload 3 <| i_push (.int 1) <| i_iadd <| i_iald <| i_aload 0 <| i_iload 3 <| i_push (.int 2) <| i_iadd <| i_iald <| i_aload 0 <| i_iload 3 <| i_push (.int 3) <| i_iadd <| i_iald <| i_invV X 194 3 11 <| i_cmp_eq X 1815 519
def bL_law_519 (X : jX) : jK := i_mask [false, false, false, false] <| i_push (.int 0) <| i_ireturn X
def bL_law_521 (X : jX) : jK := i_mask [true, true, true, true] <| i_aload 1 <| i_aload 0 <| i_iload 3 <| i_push (.int 1) <| i_iadd <| i_iald <| i_aload 0 <| i_iload 3 <| i_push (.int 2) <| i_iadd <| i_iald <| i_aload 0 <| i_iload 3 <| i_push (.int 3) <| i_iadd <| i_iald <| i_invV X 117 3 10 <| i_aload 2 <| i_aload 0 <| i_iload 3 <| i_push (.int 1) <| i_iadd <| i_iald <| i_aload 0 <| i_iload 3 <| i_push (.int 2) <| i_iadd <| i_iald <| i_aload 0 <| i_iload 3 <| i_push (.int 3) <| i_iadd <| i_iald <| i_invV X 198 3 11 <| i_cmp_eq X 1815 562
def bL_law_562 (X : jX) : jK := i_mask [false, false, false, false] <| i_push (.int 0) <| i_ireturn X
def bL_law_564 (X : jX) : jK := i_mask [true, true, true, true] <| i_aload 1 <| i_aload 0 <| i_iload 3 <| i_push (.int 1) <| i_iadd <| i_iald <| i_invV X 118 1 10 <| i_aload 2 <| i_aload 0 <| i_iload 3 <| i_push (.int 1) <| i_iadd <| i_iald <| i_invV X 202 1 11 <| i_lcmp <| i_if_eq X 1815 586
def bL_law_586 (X : jX) : jK := i_mask [false, false, false, false] <| i_push (.int 0) <| i_ireturn X
def bL_law_588 (X : jX) : jK := i_mask [true, true, true, true] <| i_aload 1 <| i_aload 0 <| i_iload 3 <| i_push (.int 1) <| i_iadd <| i_iald <| i_aload 0 <| i_iload 3 <| i_push (.int 2) <| i_iadd <| i_iald <| i_invV X 119 2 10 <| i_aload 2 <| i_aload 0 <| i_iload 3 <| i_push (.int 1) <| i_iadd <| i_iald <| i_aload 0 <| i_iload 3 <| i_push (.int 2) <| i_iadd <| i_iald <| i_invV X 203 2 11 <| i_cmp_eq X 1815 619
def bL_law_619 (X : jX) : jK := i_mask [false, false, false, false] <| i_push (.int 0) <| i_ireturn X
def bL_law_621 (X : jX) : jK := i_mask [true, true, true, true] <| i_aload 1 <| i_aload 0 <| i_iload 3 <| i_push (.int 1) <| i_iadd <| i_iald <| i_invV X 120 1 10 <| i_aload 2 <| i_aload 0 <| i_iload 3 <| i_push (.int 1) <| i_iadd <| i_iald <| i_invV X 204 1 11 <| i_lcmp <| i_if_eq X 1815 643
def bL_law_643 (X : jX) : jK := i_mask [false, false, false, false] <| i_push (.int 0) <| i_ireturn X
def bL_law_645 (X : jX) : jK := i_mask [true, true, true, true] <| i_aload 1 <| i_aload 0 <| i_iload 3 <| i_push (.int 1) <| i_iadd <| i_iald <| i_invV X 121 1 10 <| i_aload 2 <| i_aload 0 <| i_iload 3 <| i_push (.int 1) <| i_iadd <| i_iald <| i_invV X 209 1 11 <| i_lcmp <| i_if_eq X 1815 667
def bL_law_667 (X : jX) : jK := i_mask [false, false, false, false] <| i_push (.int 0) <| i_ireturn X
def bL_law_669 (X : jX) : jK := i_mask [true, true, true, true] <| i_aload 1 <| i_invV X 122 0 10 <| i_aload 2 <| i_invV X 210 0 11 <| i_cmp_eq X 1815 680
def bL_law_680 (X : jX) : jK := i_mask [false, false, false, false] <| i_push (.int 0) <| i_ireturn X
def bL_law_682 (X : jX) : jK := i_mask [true, true, true, true] <| i_aload 1 <| i_invV X 123 0 10 <| i_aload 2 <| i_invV X 211 0 11 <| i_cmp_eq X 1815 693
def bL_law_693 (X : jX) : jK := i_mask [false, false, false, false] <| i_push (.int 0) <| i_ireturn X
def bL_law_695 (X : jX) : jK := i_mask [true, true, true, true] <| i_aload 1 <| i_aload 0 <| i_iload 3 <| i_push (.int 1) <| i_iadd <| i_iald <| i_aload 0 <| i_iload 3 <| i_push (.int 2) <| i_iadd <| i_iald <| i_invV X 124 2 10 <| i_aload 2 <| i_aload 0 <| i_iload 3 <| i_push (.int 1) <| i_iadd <| i_iald <| i_aload 0 <| i_iload 3 <| i_push (.int 2) <| i_iadd <| i_iald <| i_invV X 213 2 11 <| i_cmp_eq X 1815 726
def bL_law_726 (X : jX) : jK := i_mask [false, false, false, false] <| i_push (.int 0) <| i_ireturn X
def bL_law_728 (X : jX) : jK := i_mask [true, true, true, true] <| i_aload 1 <| i_aload 0 <| i_iload 3 <| i_push (.int 1) <| i_iadd <| i_iald <| i_aload 0 <| i_iload 3 <| i_push (.int 2) <| i_iadd <| i_iald <| i_aload 0 <| i_iload 3 <| i_push (.int 3) <| i_iadd <| i_iald <| i_invV X 125 3 10 <| i_aload 2 <| i_aload 0 <| i_iload 3 <| i_push (.int 1) <| i_iadd <| i_iald <| i_aload 0 <| i_iload 3 <| i_push (.int 2) <| i_iadd <| i_iald <| i_aload 0 <| i_iload 3 <| i_push (.int 3) <| i_iadd <| i_iald <| i_invV X 214 3 11 <| i_cmp_eq X 1815 769
def bL_law_769 (X : jX) : jK := i_mask [false, false, false, false] <| i_push (.int 0) <| i_ireturn X
def bL_law_771 (X : jX) : jK := i_mask [true, true, true, true] <| i_aload 1 <| i_aload 0 <| i_iload 3 <| i_push (.int 1) <| i_iadd <| i_iald <| i_aload 0 <| i_iload 3 <| i_push (.int 2) <| i_iadd <| i_iald <| i_aload 0 <| i_iload 3 <| i_push (.int 3) <| i_iadd <| i_iald <| i_invV X 126 3 10 <| i_aload 2 <| i_aload 0 <| i_iload 3 <| i_push (.int 1) <| i_iadd <| i_iald <| i_aload 0 <| i_iload 3 <| i_push (.int 2) <| i_iadd <| i_iald <| i_aload 0 <| i_iload 3 <| i_push (.int 3) <| i_iadd <| i_iald <| i_invV X 219 3 11 <| i_lcmp <| i_if_eq X 1815 813
def bL_law_813 (X : jX) : jK := i_mask [false, false, false, false] <| i_push (.int 0) <| i_ireturn X
def bL_law_815 (X : jX) : jK := i_mask [true, true, true, true] <| i_aload 1 <| i_aload 0 <| i_iload 3 <| i_push (.int 1) <| i_iadd <| i_iald <| i_invV X 127 1 10 <| i_aload 2 <| i_aload 0 <| i_iload 3 <| i_push (.int 1) <| i_iadd <| i_iald <| i_invV X 220 1 11 <| i_cmp_eq X 1815 836
def bL_law_836 (X : jX) : jK := i_mask [false, false, false, false] <| i_push (.int 0) <| i_ireturn X
def bL_law_838 (X : jX) : jK := i_mask [true, true, true, true] <| i_aload 1 <| i_aload 0 <| i_iload 3 <| i_push (.int 1) <| i_iadd <| i_iald <| i_aload 0 <| i_iload 3 <| i_push (.int 2) <| i_iadd <| i_iald <| i_invV X 128 2 10 <| i_aload 2 <| i_aload 0 <| i_iload 3 <| i_push (.int 1) <| i_iadd <| i_iald <| i_aload 0 <| i_iload 3 <| i_push (.int 2) <| i_iadd <| i_iald <| i_invV X 221 2 11 <| i_cmp_eq X 1815 869
def bL_law_869 (X : jX) : jK := i_mask [false, false, false, false] <| i_push (.int 0) <| i_ireturn X
def bL_law_871 (X : jX) : jK := i_mask [true, true, true, true] <| i_aload 1 <| i_aload 0 <| i_iload 3 <| i_push (.int 1) <| i_iadd <| i_iald <| i_aload 0 <| i_iload 3 <| i_push (.int 2) <| i_iadd <| i_iald <| i_invV X 129 2 10 <| i_aload 2 <| i_aload 0 <| i_iload 3 <| i_push (.int 1) <| i_iadd <| i_iald <| i_aload 0 <| i_iload 3 <| i_push (.int 2) <| i_iadd <| i_iald <| i_invV X 225 2 11 <| i_cmp_eq X 1815 902
def bL_law_902 (X : jX) : jK := i_mask [false, false, false, false] <| i_push (.int 0) <| i_ireturn X
def bL_law_904 (X : jX) : jK := i_mask [true, true, true, true] <| i_aload 1 <| i_aload 0 <| i_iload 3 <| i_push (.int 1) <| i_iadd <| i_iald <| i_aload 0 <| i_iload 3 <| i_push (.int 2) <| i_iadd <| i_iald <| i_aload 0 <| i_iload 3 <| i_push (.int 3) <| i_iadd <| i_iald <| i_invV X 130 3 10 <| i_aload 2 <| i_aload 0 <| i_iload 3 <| i_push (.int 1) <| i_iadd <| i_iald <| i_aload 0 <| i_iload 3 <| i_push (.int 2) <| i_iadd <| i_iald <| i_aload 0 <| i_iload 3 <| i_push (.int 3) <| i_iadd <| i_iald <| i_invV X 226 3 11 <| i_cmp_eq X 1815 945
def bL_law_945 (X : jX) : jK := i_mask [false, false, false, false] <| i_push (.int 0) <| i_ireturn X
def bL_law_947 (X : jX) : jK := i_mask [true, true, true, true] <| i_aload 1 <| i_aload 0 <| i_iload 3 <| i_push (.int 1) <| i_iadd <| i_iald <| i_aload 0 <| i_iload 3 <| i_push (.int 2) <| i_iadd <| i_iald <| i_aload 0 <| i_iload 3 <| i_push (.int 3) <| i_iadd <| i_iald <| i_aload 0 <| i_iload 3 <| i_push (.int 4) <| i_iadd <| i_iald <| i_invV X 131 4 10 <| i_aload 2 <| i_aload 0 <| i_iload 3 <| i_push (.int 1) <| i_iadd <| i_iald <| i_aload 0 <| i_iload 3 <| i_push (.int 2) <| i_iadd <| i_iald <| i_aload 0 <| i_iload 3 <| i_push (.int 3) <| i_iadd <| i_iald <| i_aload 0 <| i_iload 3 <| i_mask [true, true, true, true] <| i_goto X 989
def bL_law_989 (X : jX) : jK := i_mask [true, true, true, true] <| i_push (.int 4) <| i_iadd <| i_iald <| i_invV X 227 4 11 <| i_lcmp <| i_if_eq X 1815 999
def bL_law_999 (X : jX) : jK := i_mask [false, false, false, false] <| i_push (.int 0) <| i_ireturn X
def bL_law_1001 (X : jX) : jK := i_mask [true, true, true, true] <| i_aload 1 <| i_aload 0 <| i_iload 3 <| i_push (.int 1) <| i_iadd <| i_iald <| i_aload 0 <| i_iload 3 <| i_push (.int 2) <| i_iadd <| i_iald <| i_aload 0 <| i_iload 3 <| i_push (.int 3) <| i_iadd <| i_iald <| i_aload 0 <| i_iload 3 <| i_push (.int 4) <| i_iadd <| i_iald <| i_invV X 132 4 10 <| i_aload 2 <| i_aload 0 <| i_iload 3 <| i_push (.int 1) <| i_iadd <| i_iald <| i_aload 0 <| i_iload 3 <| i_push (.int 2) <| i_iadd <| i_iald <| i_aload 0 <| i_iload 3 <| i_push (.int 3) <| i_iadd <| i_iald <| i_aload 0 <| i_iload 3 <| i_mask [true, true, true, true] <| i_goto X 1043
def bL_law_1043 (X : jX) : jK := i_mask [true, true, true, true] <| i_push (.int 4) <| i_iadd <| i_iald <| i_invV X 232 4 11 <| i_cmp_eq X 1815 1052
def bL_law_1052 (X : jX) : jK := i_mask [false, false, false, false] <| i_push (.int 0) <| i_ireturn X
def bL_law_1054 (X : jX) : jK := i_mask [true, true, true, true] <| i_aload 1 <| i_aload 0 <| i_iload 3 <| i_push (.int 1) <| i_iadd <| i_iald <| i_aload 0 <| i_iload 3 <| i_push (.int 2) <| i_iadd <| i_iald <| i_invV X 133 2 10 <| i_aload 2 <| i_aload 0 <| i_iload 3 <| i_push (.int 1) <| i_iadd <| i_iald <| i_aload 0 <| i_iload 3 <| i_push (.int 2) <| i_iadd <| i_iald <| i_invV X 233 2 11 <| i_cmp_eq X 1815 1085
def bL_law_1085 (X : jX) : jK := i_mask [false, false, false, false] <| i_push (.int 0) <| i_ireturn X
def bL_law_1087 (X : jX) : jK := i_mask [true, true, true, true] <| i_aload 1 <| i_aload 0 <| i_iload 3 <| i_push (.int 1) <| i_iadd <| i_iald <| i_invV X 134 1 10 <| i_aload 2 <| i_aload 0 <| i_iload 3 <| i_push (.int 1) <| i_iadd <| i_iald <| i_invV X 235 1 11 <| i_cmp_eq X 1815 1108
def bL_law_1108 (X : jX) : jK := i_mask [false, false, false, false] <| i_push (.int 0) <| i_ireturn X
def bL_law_1110 (X : jX) : jK := i_mask [true, true, true, true] <| i_aload 1 <| i_aload 0 <| i_iload 3 <| i_push (.int 1) <| i_iadd <| i_iald <| i_invV X 135 1 10 <| i_aload 2 <| i_aload 0 <| i_iload 3 <| i_push (.int 1) <| i_iadd <| i_iald <| i_invV X 236 1 11 <| i_cmp_eq X 1815 1131
def bL_law_1131 (X : jX) : jK := i_mask [false, false, false, false] <| i_push (.int 0) <| i_ireturn X
def bL_law_1133 (X : jX) : jK := i_mask [true, true, true, true] <| i_aload 1 <| i_aload 0 <| i_iload 3 <| i_push (.int 1) <| i_iadd <| i_iald <| i_aload 0 <| i_iload 3 <| i_push (.int 2) <| i_iadd <| i_iald <| i_invV X 136 2 10 <| i_aload 2 <| i_aload 0 <| i_iload 3 <| i_push (.int 1) <| i_iadd <| i_iald <| i_aload 0 <| i_iload 3 <| i_push (.int 2) <| i_iadd <| i_iald <| i_invV X 241 2 11 <| i_cmp_eq X 1815 1164
def bL_law_1164 (X : jX) : jK := i_mask [false, false, false, false] <| i_push (.int 0) <| i_ireturn X
def bL_law_1166 (X : jX) : jK := i_mask [true, true, true, true] <| i_aload 1 <| i_aload 0 <| i_iload 3 <| i_push (.int 1) <| i_iadd <| i_iald <| i_aload 0 <| i_iload 3 <| i_push (.int 2) <| i_iadd <| i_iald <| i_aload 0 <| i_iload 3 <| i_push (.int 3) <| i_iadd <| i_iald <| i_invV X 137 3 10 <| i_aload 2 <| i_aload 0 <| i_iload 3 <| i_push (.int 1) <| i_iadd <| i_iald <| i_aload 0 <| i_iload 3 <| i_push (.int 2) <| i_iadd <| i_iald <| i_aload 0 <| i_iload 3 <| i_push (.int 3) <| i_iadd <| i_iald <| i_invV X 243 3 11 <| i_lcmp <| i_if_eq X 1815 1208
def bL_law_1208 (X : jX) : jK := i_mask [false, false, false, false] <| i_push (.int 0) <| i_ireturn X
def bL_law_1210 (X : jX) : jK := i_mask [true, true, true, true] <| i_aload 1 <| i_aload 0 <| i_iload 3 <| i_push (.int 1) <| i_iadd <| i_iald <| i_aload 0 <| i_iload 3 <| i_push (.int 2) <| i_iadd <| i_iald <| i_aload 0 <| i_iload 3 <| i_push (.int 3) <| i_iadd <| i_iald <| i_invV X 138 3 10 <| i_aload 2 <| i_aload 0 <| i_iload 3 <| i_push (.int 1) <| i_iadd <| i_iald <| i_aload 0 <| i_iload 3 <| i_push (.int 2) <| i_iadd <| i_iald <| i_aload 0 <| i_iload 3 <| i_push (.int 3) <| i_iadd <| i_iald <| i_invV X 244 3 11 <| i_cmp_eq X 1815 1251
def bL_law_1251 (X : jX) : jK := i_mask [false, false, false, false] <| i_push (.int 0) <| i_ireturn X
def bL_law_1253 (X : jX) : jK := i_mask [true, true, true, true] <| i_aload 1 <| i_aload 0 <| i_iload 3 <| i_push (.int 1) <| i_iadd <| i_iald <| i_aload 0 <| i_iload 3 <| i_push (.int 2) <| i_iadd <| i_iald <| i_aload 0 <| i_iload 3 <| i_push (.int 3) <| i_iadd <| i_iald <| i_aload 0 <| i_iload 3 <| i_push (.int 4) <| i_iadd <| i_iald <| i_i2l <| i_push (.int 32) <| i_lshl <| i_aload 0 <| i_iload 3 <| i_push (.int 5) <| i_iadd <| i_iald <| i_i2l <| i_push (.long 4294967295) <| i_land <| i_lor <| i_aload 0 <| i_iload 3 <| i_push (.int 6) <| i_iadd <| i_iald <| i_invV X 139 5 10 <| i_aload 2 <| i_mask [true, true, true, true] <| i_goto X 1299
def bL_law_1299 (X : jX) : jK := i_mask [true, true, true, true] <| i_aload 0 <| i_iload 3 <| i_push (.int 1) <| i_iadd <| i_iald <| i_aload 0 <| i_iload 3 <| i_push (.int 2) <| i_iadd <| i_iald <| i_aload 0 <| i_iload 3 <| i_push (.int 3) <| i_iadd <| i_iald <| i_aload 0 <| i_iload 3 <| i_push (.int 4) <| i_iadd <| i_iald <| i_i2l <| i_push (.int 32) <| i_lshl <| i_aload 0 <| i_iload 3 <| i_push (.int 5) <| i_iadd <| i_iald <| i_i2l <| i_push (.long 4294967295) <| i_land <| i_lor <| i_aload 0 <| i_iload 3 <| i_push (.int 6) <| i_iadd <| i_iald <| i_invV X 245 5 11 <| i_lcmp <| i_if_eq X 1815 1347
def bL_law_1347 (X : jX) : jK := i_mask [false, false, false, false] <| i_push (.int 0) <| i_ireturn X
def bL_law_1349 (X : jX) : jK := i_mask [true, true, true, true] <| i_aload 1 <| i_aload 0 <| i_iload 3 <| i_push (.int 1) <| i_iadd <| i_iald <| i_aload 0 <| i_iload 3 <| i_push (.int 2) <| i_iadd <| i_iald <| i_aload 0 <| i_iload 3 <| i_push (.int 3) <| i_iadd <| i_iald <| i_invV X 140 3 10 <| i_aload 2 <| i_aload 0 <| i_iload 3 <| i_push (.int 1) <| i_iadd <| i_iald <| i_aload 0 <| i_iload 3 <| i_push (.int 2) <| i_iadd <| i_iald <| i_aload 0 <| i_iload 3 <| i_push (.int 3) <| i_iadd <| i_iald <| i_invV X 246 3 11 <| i_cmp_eq X 1815 1390
def bL_law_1390 (X : jX) : jK := i_mask [false, false, false, false] <| i_push (.int 0) <| i_ireturn X
def bL_law_1392 (X : jX) : jK := i_mask [true, true, true, true] <| i_aload 1 <| i_aload 0 <| i_iload 3 <| i_push (.int 1) <| i_iadd <| i_iald <| i_aload 0 <| i_iload 3 <| i_push (.int 2) <| i_iadd <| i_iald <| i_aload 0 <| i_iload 3 <| i_push (.int 3) <| i_iadd <| i_iald <| i_invV X 141 3 10 <| i_aload 2 <| i_aload 0 <| i_iload 3 <| i_push (.int 1) <| i_iadd <| i_iald <| i_aload 0 <| i_iload 3 <| i_push (.int 2) <| i_iadd <| i_iald <| i_aload 0 <| i_iload 3 <| i_push (.int 3) <| i_iadd <| i_iald <| i_invV X 248 3 11 <| i_cmp_eq X 1815 1433
def bL_law_1433 (X : jX) : jK := i_mask [false, false, false, false] <| i_push (.int 0) <| i_ireturn X
def bL_law_1435 (X : jX) : jK := i_mask [true, true, true, true] <| i_aload 1 <| i_aload 0 <| i_iload 3 <| i_push (.int 1) <| i_iadd <| i_iald <| i_aload 0 <| i_iload 3 <| i_push (.int 2) <| i_iadd <| i_iald <| i_aload 0 <| i_iload 3 <| i_push (.int 3) <| i_iadd <| i_iald <| i_invV X 142 3 10 <| i_aload 2 <| i_aload 0 <| i_iload 3 <| i_push (.int 1) <| i_iadd <| i_iald <| i_aload 0 <| i_iload 3 <| i_push (.int 2) <| i_iadd <| i_iald <| i_aload 0 <| i_iload 3 <| i_push (.int 3) <| i_iadd <| i_iald <| i_invV X 249 3 11 <| i_cmp_eq X 1815 1476
def bL_law_1476 (X : jX) : jK := i_mask [false, false, false, false] <| i_push (.int 0) <| i_ireturn X
def bL_law_1478 (X : jX) : jK := i_mask [true, true, true, true] <| i_aload 1 <| i_aload 0 <| i_iload 3 <| i_push (.int 1) <| i_iadd <| i_iald <| i_aload 0 <| i_iload 3 <| i_push (.int 2) <| i_iadd <| i_iald <| i_aload 0 <| i_iload 3 <| i_push (.int 3) <| i_iadd <| i_iald <| i_invV X 143 3 10 <| i_aload 2 <| i_aload 0 <| i_iload 3 <| i_push (.int 1) <| i_iadd <| i_iald <| i_aload 0 <| i_iload 3 <| i_push (.int 2) <| i_iadd <| i_iald <| i_aload 0 <| i_iload 3 <| i_push (.int 3) <| i_iadd <| i_iald <| i_invV X 250 3 11 <| i_cmp_eq X 1815 1519
def bL_law_1519 (X : jX) : jK := i_mask [false, false, false, false] <| i_push (.int 0) <| i_ireturn X
def bL_law_1521 (X : jX) : jK := i_mask [true, true, true, true] <| i_aload 1 <| i_aload 0 <| i_iload 3 <| i_push (.int 1) <| i_iadd <| i_iald <| i_aload 0 <| i_iload 3 <| i_push (.int 2) <| i_iadd <| i_iald <| i_invV X 144 2 10 <| i_aload 2 <| i_aload 0 <| i_iload 3 <| i_push (.int 1) <| i_iadd <| i_iald <| i_aload 0 <| i_iload 3 <| i_push (.int 2) <| i_iadd <| i_iald <| i_invV X 251 2 11 <| i_cmp_eq X 1815 1552
def bL_law_1552 (X : jX) : jK := i_mask [false, false, false, false] <| i_push (.int 0) <| i_ireturn X
def bL_law_1554 (X : jX) : jK := i_mask [true, true, true, true] <| i_aload 1 <| i_invV X 145 0 10 <| i_aload 2 <| i_invV X 252 0 11 <| i_cmp_eq X 1815 1565
def bL_law_1565 (X : jX) : jK := i_mask [false, false, false, false] <| i_push (.int 0) <| i_ireturn X
def bL_law_1567 (X : jX) : jK := i_mask [true, true, true, true] <| i_aload 1 <| i_invV X 146 0 10 <| i_aload 2 <| i_invV X 253 0 11 <| i_cmp_eq X 1815 1578
def bL_law_1578 (X : jX) : jK := i_mask [false, false, false, false] <| i_push (.int 0) <| i_ireturn X
def bL_law_1580 (X : jX) : jK := i_mask [true, true, true, true] <| i_aload 1 <| i_aload 0 <| i_iload 3 <| i_push (.int 1) <| i_iadd <| i_iald <| i_aload 0 <| i_iload 3 <| i_push (.int 2) <| i_iadd <| i_iald <| i_aload 0 <| i_iload 3 <| i_push (.int 3) <| i_iadd <| i_iald <| i_invV X 147 3 10 <| i_aload 2 <| i_aload 0 <| i_iload 3 <| i_push (.int 1) <| i_iadd <| i_iald <| i_aload 0 <| i_iload 3 <| i_push (.int 2) <| i_iadd <| i_iald <| i_aload 0 <| i_iload 3 <| i_push (.int 3) <| i_iadd <| i_iald <| i_invV X 255 3 11 <| i_cmp_eq X 1815 1621
def bL_law_1621 (X : jX) : jK := i_mask [false, false, false, false] <| i_push (.int 0) <| i_ireturn X
def bL_law_1623 (X : jX) : jK := i_mask [true, true, true, true] <| i_aload 1 <| i_aload 0 <| i_iload 3 <| i_push (.int 1) <| i_iadd <| i_iald <| i_aload 0 <| i_iload 3 <| i_push (.int 2) <| i_iadd <| i_iald <| i_aload 0 <| i_iload 3 <| i_push (.int 3) <| i_iadd <| i_iald <| i_invV X 148 3 10 <| i_aload 2 <| i_aload 0 <| i_iload 3 <| i_push (.int 1) <| i_iadd <| i_iald <| i_aload 0 <| i_iload 3 <| i_push (.int 2) <| i_iadd <| i_iald <| i_aload 0 <| i_iload 3 <| i_push (.int 3) <| i_iadd <| i_iald <| i_invV X 256 3 11 <| i_cmp_eq X 1815 1664
def bL_law_1664 (X : jX) : jK := i_mask [false, false, false, false] <| i_push (.int 0) <| i_ireturn X
def bL_law_1666 (X : jX) : jK := i_mask [true, true, true, true] <| i_aload 1 <| i_aload 0 <| i_iload 3 <| i_push (.int 1) <| i_iadd <| i_iald <| i_aload 0 <| i_iload 3 <| i_push (.int 2) <| i_iadd <| i_iald <| i_aload 0 <| i_iload 3 <| i_push (.int 3) <| i_iadd <| i_iald <| i_aload 0 <| i_iload 3 <| i_push (.int 4) <| i_iadd <| i_iald <| i_aload 0 <| i_iload 3 <| i_push (.int 5) <| i_iadd <| i_iald <| i_invV X 149 5 10 <| i_aload 2 <| i_aload 0 <| i_iload 3 <| i_push (.int 1) <| i_iadd <| i_iald <| i_aload 0 <| i_iload 3 <| i_push (.int 2) <| i_iadd <| i_iald <| i_aload 0 <| i_iload 3 <| i_mask [true, true, true, true] <| i_goto X 1708
def bL_law_1708 (X : jX) : jK := i_mask [true, true, true, true] <| i_push (.int 3) <| i_iadd <| i_iald <| i_aload 0 <| i_iload 3 <| i_push (.int 4) <| i_iadd <| i_iald <| i_aload 0 <| i_iload 3 <| i_push (.int 5) <| i_iadd <| i_iald <| i_invV X 257 5 11 <| i_cmp_eq X 1815 1727
def bL_law_1727 (X : jX) : jK := i_mask [false, false, false, false] <| i_push (.int 0) <| i_ireturn X
def bL_law_1729 (X : jX) : jK := i_mask [true, true, true, true] <| i_aload 1 <| i_aload 0 <| i_iload 3 <| i_push (.int 1) <| i_iadd <| i_iald <| i_aload 0 <| i_iload 3 <| i_push (.int 2) <| i_iadd <| i_iald <| i_aload 0 <| i_iload 3 <| i_push (.int 3) <| i_iadd <| i_iald <| i_aload 0 <| i_iload 3 <| i_push (.int 4) <| i_iadd <| i_iald <| i_invV X 150 4 10 <| i_aload 2 <| i_aload 0 <| i_iload 3 <| i_push (.int 1) <| i_iadd <| i_iald <| i_aload 0 <| i_iload 3 <| i_push (.int 2) <| i_iadd <| i_iald <| i_aload 0 <| i_iload 3 <| i_push (.int 3) <| i_iadd <| i_iald <| i_aload 0 <| i_iload 3 <| i_mask [true, true, true, true] <| i_goto X 1771
def bL_law_1771 (X : jX) : jK := i_mask [true, true, true, true] <| i_push (.int 4) <| i_iadd <| i_iald <| i_invV X 258 4 11 <| i_cmp_eq X 1815 1780
def bL_law_1780 (X : jX) : jK := i_mask [false, false, false, false] <| i_push (.int 0) <| i_ireturn X
def bL_law_1782 (X : jX) : jK := i_mask [true, true, true, true] <| i_aload 1 <| i_aload 0 <| i_iload 3 <| i_push (.int 1) <| i_iadd <| i_iald <| i_aload 0 <| i_iload 3 <| i_push (.int 2) <| i_iadd <| i_iald <| i_invV X 151 2 10 <| i_aload 2 <| i_aload 0 <| i_iload 3 <| i_push (.int 1) <| i_iadd <| i_iald <| i_aload 0 <| i_iload 3 <| i_push (.int 2) <| i_iadd <| i_iald <| i_invV X 260 2 11 <| i_cmp_eq X 1815 1813
def bL_law_1813 (X : jX) : jK := i_mask [false, false, false, false] <| i_push (.int 0) <| i_ireturn X
def bL_law_1815 (X : jX) : jK := i_mask [true, true, true, true] <| i_iinc 3 7 <| i_mask [true, true, true, true] <| i_goto X 18
def bL_law_1821 (X : jX) : jK := i_mask [false, false, false, false] <| i_push (.int 1) <| i_ireturn X
def pL_law : jX → Nat → jK := fun X => jpick [(0, bL_law_0 X), (18, bL_law_18 X), (27, bL_law_27 X), (224, bL_law_224 X), (255, bL_law_255 X), (257, bL_law_257 X), (288, bL_law_288 X), (290, bL_law_290 X), (311, bL_law_311 X), (313, bL_law_313 X), (334, bL_law_334 X), (336, bL_law_336 X), (384, bL_law_384 X), (397, bL_law_397 X), (399, bL_law_399 X), (410, bL_law_410 X), (412, bL_law_412 X), (433, bL_law_433 X), (435, bL_law_435 X), (476, bL_law_476 X), (478, bL_law_478 X), (519, bL_law_519 X), (521, bL_law_521 X), (562, bL_law_562 X), (564, bL_law_564 X), (586, bL_law_586 X), (588, bL_law_588 X), (619, bL_law_619 X), (621, bL_law_621 X), (643, bL_law_643 X), (645, bL_law_645 X), (667, bL_law_667 X), (669, bL_law_669 X), (680, bL_law_680 X), (682, bL_law_682 X), (693, bL_law_693 X), (695, bL_law_695 X), (726, bL_law_726 X), (728, bL_law_728 X), (769, bL_law_769 X), (771, bL_law_771 X), (813, bL_law_813 X), (815, bL_law_815 X), (836, bL_law_836 X), (838, bL_law_838 X), (869, bL_law_869 X), (871, bL_law_871 X), (902, bL_law_902 X), (904, bL_law_904 X), (945, bL_law_945 X), (947, bL_law_947 X), (989, bL_law_989 X), (999, bL_law_999 X), (1001, bL_law_1001 X), (1043, bL_law_1043 X), (1052, bL_law_1052 X), (1054, bL_law_1054 X), (1085, bL_law_1085 X), (1087, bL_law_1087 X), (1108, bL_law_1108 X), (1110, bL_law_1110 X), (1131, bL_law_1131 X), (1133, bL_law_1133 X), (1164, bL_law_1164 X), (1166, bL_law_1166 X), (1208, bL_law_1208 X), (1210, bL_law_1210 X), (1251, bL_law_1251 X), (1253, bL_law_1253 X), (1299, bL_law_1299 X), (1347, bL_law_1347 X), (1349, bL_law_1349 X), (1390, bL_law_1390 X), (1392, bL_law_1392 X), (1433, bL_law_1433 X), (1435, bL_law_1435 X), (1476, bL_law_1476 X), (1478, bL_law_1478 X), (1519, bL_law_1519 X), (1521, bL_law_1521 X), (1552, bL_law_1552 X), (1554, bL_law_1554 X), (1565, bL_law_1565 X), (1567, bL_law_1567 X), (1578, bL_law_1578 X), (1580, bL_law_1580 X), (1621, bL_law_1621 X), (1623, bL_law_1623 X), (1664, bL_law_1664 X), (1666, bL_law_1666 X), (1708, bL_law_1708 X), (1727, bL_law_1727 X), (1729, bL_law_1729 X), (1771, bL_law_1771 X), (1780, bL_law_1780 X), (1782, bL_law_1782 X), (1813, bL_law_1813 X), (1815, bL_law_1815 X), (1821, bL_law_1821 X)]
def mL_law : jMt := (yL_law, cL_law, 4, (some .boolean), pL_law)
