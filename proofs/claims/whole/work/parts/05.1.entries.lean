/-! Printed by my own program (wip/whole/gen_entries.py): the table of methods: name, bytes, locals, return type, class, whether a constructor, handlers, instructions -/
abbrev ve_E : Type := MethodName × ByteArray × Nat × Option FieldType × Nat × Bool × List (Nat × Nat × Nat × Nat) × List (List (Nat × Instr × Nat))
def ve_e0 : ve_E := (⟨"RuleHouse", "<init>", "()V"⟩, prog_1_method_1_code, 1, none, 1, true, [], ve_d0)
def ve_e1 : ve_E := (⟨"RuleHouse", "type", "(JI)Z"⟩, prog_1_method_2_code, 4, some .boolean, 1, false, [], ve_d1)
def ve_e2 : ve_E := (⟨"RuleHouse", "program", "()I"⟩, prog_1_method_3_code, 2, some .int, 1, false, [], ve_d2)
def ve_e3 : ve_E := (⟨"RuleHouse", "fact", "(I)Z"⟩, prog_1_method_4_code, 4, some .boolean, 1, false, [], ve_d3)
def ve_e4 : ve_E := (⟨"RuleHouse", "fault", "(I)I"⟩, prog_1_method_5_code, 2, some .int, 1, false, [], ve_d4)
def ve_e5 : ve_E := (⟨"RuleHouse", "solve", "()I"⟩, prog_1_method_6_code, 1, some .int, 1, false, [], ve_d5)
def ve_e6 : ve_E := (⟨"RuleHouse", "ask", "()I"⟩, prog_1_method_7_code, 2, some .int, 1, false, [], ve_d6)
def ve_e7 : ve_E := (⟨"RuleHouse", "answer", "(II)J"⟩, prog_1_method_8_code, 3, some .long, 1, false, [], ve_d7)
def ve_e8 : ve_E := (⟨"RuleHouse", "total", "(I)I"⟩, prog_1_method_9_code, 2, some .int, 1, false, [], ve_d8)
def ve_e9 : ve_E := (⟨"RuleHouse", "predicate", "(II)I"⟩, prog_1_method_10_code, 3, some .int, 1, false, [], ve_d9)
def ve_e10 : ve_E := (⟨"RuleHouse", "tuple", "(III)J"⟩, prog_1_method_11_code, 4, some .long, 1, false, [], ve_d10)
def ve_e11 : ve_E := (⟨"RuleHouse", "round", "(II)I"⟩, prog_1_method_12_code, 3, some .int, 1, false, [], ve_d11)
def ve_e12 : ve_E := (⟨"RuleHouse", "closeReading", "()V"⟩, prog_1_method_13_code, 1, none, 1, false, [], ve_d12)
def ve_e13 : ve_E := (⟨"RuleHouse", "tuplesOf", "(I)I"⟩, prog_1_method_14_code, 2, some .int, 1, false, [], ve_d13)
def ve_e14 : ve_E := (⟨"RuleHouse", "shown", "(J)J"⟩, prog_1_method_15_code, 2, some .long, 1, false, [], ve_d14)
def ve_e15 : ve_E := (⟨"RuleHouse", "lettersOf", "(J)I"⟩, prog_1_method_16_code, 4, some .int, 1, false, [], ve_d15)
def ve_e16 : ve_E := (⟨"RuleHouse", "letterAt", "(JI)I"⟩, prog_1_method_17_code, 4, some .int, 1, false, [], ve_d16)
def ve_e17 : ve_E := (⟨"RuleHouse", "isVariable", "(J)Z"⟩, prog_1_method_18_code, 2, some .boolean, 1, false, [], ve_d17)
def ve_e18 : ve_E := (⟨"RuleHouseModel", "<init>", "()V"⟩, prog_10_method_1_code, 1, none, 9, true, [], ve_d18)
def ve_e19 : ve_E := (⟨"RuleHouseModel", "thrown", "()I"⟩, prog_10_method_2_code, 1, some .int, 9, false, [], ve_d19)
def ve_e20 : ve_E := (⟨"RuleHouseModel", "raise", "(I)I"⟩, prog_10_method_3_code, 2, some .int, 9, false, [], ve_d20)
def ve_e21 : ve_E := (⟨"RuleHouseModel", "type", "(JI)Z"⟩, prog_10_method_4_code, 6, some .boolean, 9, false, [], ve_d21)
def ve_e22 : ve_E := (⟨"RuleHouseModel", "see", "(I)I"⟩, prog_10_method_5_code, 2, some .int, 9, false, [], ve_d22)
def ve_e23 : ve_E := (⟨"RuleHouseModel", "isDigit", "(I)Z"⟩, prog_10_method_6_code, 1, some .boolean, 9, false, [], ve_d23)
def ve_e24 : ve_E := (⟨"RuleHouseModel", "isSmall", "(I)Z"⟩, prog_10_method_7_code, 1, some .boolean, 9, false, [], ve_d24)
def ve_e25 : ve_E := (⟨"RuleHouseModel", "isGreat", "(I)Z"⟩, prog_10_method_8_code, 1, some .boolean, 9, false, [], ve_d25)
def ve_e26 : ve_E := (⟨"RuleHouseModel", "isPart", "(I)Z"⟩, prog_10_method_9_code, 1, some .boolean, 9, false, [], ve_d26)
def ve_e27 : ve_E := (⟨"RuleHouseModel", "token", "(IIIJ)V"⟩, prog_10_method_10_code, 6, none, 9, false, [], ve_d27)
def ve_e28 : ve_E := (⟨"RuleHouseModel", "packed", "(IIIII)J"⟩, prog_10_method_11_code, 5, some .long, 9, false, [], ve_d28)
def ve_e29 : ve_E := (⟨"RuleHouseModel", "wordOf", "(J)I"⟩, prog_10_method_12_code, 2, some .int, 9, false, [], ve_d29)
def ve_e30 : ve_E := (⟨"RuleHouseModel", "tokenize", "()V"⟩, prog_10_method_13_code, 3, none, 9, false, [], ve_d30)
def ve_e31 : ve_E := (⟨"RuleHouseModel", "oneToken", "(I)I"⟩, prog_10_method_14_code, 9, some .int, 9, false, [], ve_d31)
def ve_e32 : ve_E := (⟨"RuleHouseModel", "wrong", "(I)Z"⟩, prog_10_method_15_code, 2, some .boolean, 9, false, [], ve_d32)
def ve_e33 : ve_E := (⟨"RuleHouseModel", "refuse", "()Z"⟩, prog_10_method_16_code, 1, some .boolean, 9, false, [], ve_d33)
def ve_e34 : ve_E := (⟨"RuleHouseModel", "isSign", "(I)Z"⟩, prog_10_method_17_code, 2, some .boolean, 9, false, [], ve_d34)
def ve_e35 : ve_E := (⟨"RuleHouseModel", "takes", "(I)Z"⟩, prog_10_method_18_code, 2, some .boolean, 9, false, [], ve_d35)
def ve_e36 : ve_E := (⟨"RuleHouseModel", "want", "(I)Z"⟩, prog_10_method_19_code, 2, some .boolean, 9, false, [], ve_d36)
def ve_e37 : ve_E := (⟨"RuleHouseModel", "note", "(II)V"⟩, prog_10_method_20_code, 3, none, 9, false, [], ve_d37)
def ve_e38 : ve_E := (⟨"RuleHouseModel", "readVariable", "()Z"⟩, prog_10_method_21_code, 2, some .boolean, 9, false, [], ve_d38)
def ve_e39 : ve_E := (⟨"RuleHouseModel", "readTerm", "()Z"⟩, prog_10_method_22_code, 2, some .boolean, 9, false, [], ve_d39)
def ve_e40 : ve_E := (⟨"RuleHouseModel", "predicateOf", "(JIIZ)I"⟩, prog_10_method_23_code, 8, some .int, 9, false, [], ve_d40)
def ve_e41 : ve_E := (⟨"RuleHouseModel", "isKnown", "(J)Z"⟩, prog_10_method_24_code, 4, some .boolean, 9, false, [], ve_d41)
def ve_e42 : ve_E := (⟨"RuleHouseModel", "readArguments", "(ZZ)Z"⟩, prog_10_method_25_code, 5, some .boolean, 9, false, [], ve_d42)
def ve_e43 : ve_E := (⟨"RuleHouseModel", "relation", "()I"⟩, prog_10_method_26_code, 2, some .int, 9, false, [], ve_d43)
def ve_e44 : ve_E := (⟨"RuleHouseModel", "lay", "(II)V"⟩, prog_10_method_27_code, 3, none, 9, false, [], ve_d44)
def ve_e45 : ve_E := (⟨"RuleHouseModel", "readLiteral", "()Z"⟩, prog_10_method_28_code, 6, some .boolean, 9, false, [], ve_d45)
def ve_e46 : ve_E := (⟨"RuleHouseModel", "readBody", "()Z"⟩, prog_10_method_29_code, 1, some .boolean, 9, false, [], ve_d46)
def ve_e47 : ve_E := (⟨"RuleHouseModel", "isBound", "(II)Z"⟩, prog_10_method_30_code, 3, some .boolean, 9, false, [], ve_d47)
def ve_e48 : ve_E := (⟨"RuleHouseModel", "bind", "(II)V"⟩, prog_10_method_31_code, 3, none, 9, false, [], ve_d48)
def ve_e49 : ve_E := (⟨"RuleHouseModel", "lookBound", "()V"⟩, prog_10_method_32_code, 5, none, 9, false, [], ve_d49)
def ve_e50 : ve_E := (⟨"RuleHouseModel", "predicateSizeOf", "(I)I"⟩, prog_10_method_33_code, 2, some .int, 9, false, [], ve_d50)
def ve_e51 : ve_E := (⟨"RuleHouseModel", "beginClause", "(I)V"⟩, prog_10_method_34_code, 2, none, 9, false, [], ve_d51)
def ve_e52 : ve_E := (⟨"RuleHouseModel", "layHead", "()V"⟩, prog_10_method_35_code, 2, none, 9, false, [], ve_d52)
def ve_e53 : ve_E := (⟨"RuleHouseModel", "findFact", "()I"⟩, prog_10_method_36_code, 4, some .int, 9, false, [], ve_d53)
def ve_e54 : ve_E := (⟨"RuleHouseModel", "addFact", "()V"⟩, prog_10_method_37_code, 3, none, 9, false, [], ve_d54)
def ve_e55 : ve_E := (⟨"RuleHouseModel", "readClause", "()Z"⟩, prog_10_method_38_code, 2, some .boolean, 9, false, [], ve_d55)
def ve_e56 : ve_E := (⟨"RuleHouseModel", "isAtom", "(I)Z"⟩, prog_10_method_39_code, 2, some .boolean, 9, false, [], ve_d56)
def ve_e57 : ve_E := (⟨"RuleHouseModel", "lookHangs", "()V"⟩, prog_10_method_40_code, 4, none, 9, false, [], ve_d57)
def ve_e58 : ve_E := (⟨"RuleHouseModel", "isBack", "(II)Z"⟩, prog_10_method_41_code, 3, some .boolean, 9, false, [], ve_d58)
def ve_e59 : ve_E := (⟨"RuleHouseModel", "lookAbsence", "()V"⟩, prog_10_method_42_code, 3, none, 9, false, [], ve_d59)
def ve_e60 : ve_E := (⟨"RuleHouseModel", "lookStrata", "()V"⟩, prog_10_method_43_code, 6, none, 9, false, [], ve_d60)
def ve_e61 : ve_E := (⟨"RuleHouseModel", "beginText", "()V"⟩, prog_10_method_44_code, 1, none, 9, false, [], ve_d61)
def ve_e62 : ve_E := (⟨"RuleHouseModel", "program", "()I"⟩, prog_10_method_45_code, 2, some .int, 9, false, [], ve_d62)
def ve_e63 : ve_E := (⟨"RuleHouseModel", "fact", "(I)Z"⟩, prog_10_method_46_code, 6, some .boolean, 9, false, [], ve_d63)
def ve_e64 : ve_E := (⟨"RuleHouseModel", "fault", "(I)I"⟩, prog_10_method_47_code, 2, some .int, 9, false, [], ve_d64)
def ve_e65 : ve_E := (⟨"RuleHouseModel", "spelt", "(J)J"⟩, prog_10_method_48_code, 4, some .long, 9, false, [], ve_d65)
def ve_e66 : ve_E := (⟨"RuleHouseModel", "isSymbol", "(J)Z"⟩, prog_10_method_49_code, 2, some .boolean, 9, false, [], ve_d66)
def ve_e67 : ve_E := (⟨"RuleHouseModel", "order", "(JJ)I"⟩, prog_10_method_50_code, 8, some .int, 9, false, [], ve_d67)
def ve_e68 : ve_E := (⟨"RuleHouseModel", "isTermThere", "(II)Z"⟩, prog_10_method_51_code, 3, some .boolean, 9, false, [], ve_d68)
def ve_e69 : ve_E := (⟨"RuleHouseModel", "termOf", "(II)J"⟩, prog_10_method_52_code, 3, some .long, 9, false, [], ve_d69)
def ve_e70 : ve_E := (⟨"RuleHouseModel", "isLike", "(II)Z"⟩, prog_10_method_53_code, 5, some .boolean, 9, false, [], ve_d70)
def ve_e71 : ve_E := (⟨"RuleHouseModel", "take", "(II)Z"⟩, prog_10_method_54_code, 5, some .boolean, 9, false, [], ve_d71)
def ve_e72 : ve_E := (⟨"RuleHouseModel", "holdsRelation", "(I)Z"⟩, prog_10_method_55_code, 7, some .boolean, 9, false, [], ve_d72)
def ve_e73 : ve_E := (⟨"RuleHouseModel", "reckon", "(I)Z"⟩, prog_10_method_56_code, 8, some .boolean, 9, false, [], ve_d73)
def ve_e74 : ve_E := (⟨"RuleHouseModel", "mayHold", "()Z"⟩, prog_10_method_57_code, 2, some .boolean, 9, false, [], ve_d74)
def ve_e75 : ve_E := (⟨"RuleHouseModel", "set", "(IIJ)V"⟩, prog_10_method_58_code, 6, none, 9, false, [], ve_d75)
def ve_e76 : ve_E := (⟨"RuleHouseModel", "finds", "()Z"⟩, prog_10_method_59_code, 4, some .boolean, 9, false, [], ve_d76)
def ve_e77 : ve_E := (⟨"RuleHouseModel", "keep", "(I)V"⟩, prog_10_method_60_code, 3, none, 9, false, [], ve_d77)
def ve_e78 : ve_E := (⟨"RuleHouseModel", "restore", "(I)V"⟩, prog_10_method_61_code, 3, none, 9, false, [], ve_d78)
def ve_e79 : ve_E := (⟨"RuleHouseModel", "ways", "(I)V"⟩, prog_10_method_62_code, 3, none, 9, false, [], ve_d79)
def ve_e80 : ve_E := (⟨"RuleHouseModel", "way", "(I)V"⟩, prog_10_method_63_code, 3, none, 9, false, [], ve_d80)
def ve_e81 : ve_E := (⟨"RuleHouseModel", "makes", "()V"⟩, prog_10_method_64_code, 1, none, 9, false, [], ve_d81)
def ve_e82 : ve_E := (⟨"RuleHouseModel", "headOf", "(I)J"⟩, prog_10_method_65_code, 2, some .long, 9, false, [], ve_d82)
def ve_e83 : ve_E := (⟨"RuleHouseModel", "sizeOf", "(I)I"⟩, prog_10_method_66_code, 2, some .int, 9, false, [], ve_d83)
def ve_e84 : ve_E := (⟨"RuleHouseModel", "come", "(I)V"⟩, prog_10_method_67_code, 5, none, 9, false, [], ve_d84)
def ve_e85 : ve_E := (⟨"RuleHouseModel", "makeTuple", "()V"⟩, prog_10_method_68_code, 2, none, 9, false, [], ve_d85)
def ve_e86 : ve_E := (⟨"RuleHouseModel", "makeTotal", "()V"⟩, prog_10_method_69_code, 8, none, 9, false, [], ve_d86)
def ve_e87 : ve_E := (⟨"RuleHouseModel", "isGroup", "(II)Z"⟩, prog_10_method_70_code, 4, some .boolean, 9, false, [], ve_d87)
def ve_e88 : ve_E := (⟨"RuleHouseModel", "totals", "(I)V"⟩, prog_10_method_71_code, 5, none, 9, false, [], ve_d88)
def ve_e89 : ve_E := (⟨"RuleHouseModel", "strata", "()I"⟩, prog_10_method_72_code, 3, some .int, 9, false, [], ve_d89)
def ve_e90 : ve_E := (⟨"RuleHouseModel", "level", "(I)V"⟩, prog_10_method_73_code, 4, none, 9, false, [], ve_d90)
def ve_e91 : ve_E := (⟨"RuleHouseModel", "solve", "()I"⟩, prog_10_method_74_code, 3, some .int, 9, false, [], ve_d91)
def ve_e92 : ve_E := (⟨"RuleHouseModel", "makeAnswer", "()V"⟩, prog_10_method_75_code, 5, none, 9, false, [], ve_d92)
def ve_e93 : ve_E := (⟨"RuleHouseModel", "isAhead", "(II)Z"⟩, prog_10_method_76_code, 5, some .boolean, 9, false, [], ve_d93)
def ve_e94 : ve_E := (⟨"RuleHouseModel", "ask", "()I"⟩, prog_10_method_77_code, 4, some .int, 9, false, [], ve_d94)
def ve_e95 : ve_E := (⟨"RuleHouseModel", "answer", "(II)J"⟩, prog_10_method_78_code, 3, some .long, 9, false, [], ve_d95)
def ve_e96 : ve_E := (⟨"RuleHouseModel", "tuplesOf", "(I)I"⟩, prog_10_method_79_code, 4, some .int, 9, false, [], ve_d96)
def ve_e97 : ve_E := (⟨"RuleHouseModel", "total", "(I)I"⟩, prog_10_method_80_code, 2, some .int, 9, false, [], ve_d97)
def ve_e98 : ve_E := (⟨"RuleHouseModel", "letters", "(J)I"⟩, prog_10_method_81_code, 5, some .int, 9, false, [], ve_d98)
def ve_e99 : ve_E := (⟨"RuleHouseModel", "predicate", "(II)I"⟩, prog_10_method_82_code, 8, some .int, 9, false, [], ve_d99)
def ve_e100 : ve_E := (⟨"RuleHouseModel", "isTupleAhead", "(II)Z"⟩, prog_10_method_83_code, 5, some .boolean, 9, false, [], ve_d100)
def ve_e101 : ve_E := (⟨"RuleHouseModel", "tupleAt", "(II)I"⟩, prog_10_method_84_code, 6, some .int, 9, false, [], ve_d101)
def ve_e102 : ve_E := (⟨"RuleHouseModel", "tuple", "(III)J"⟩, prog_10_method_85_code, 5, some .long, 9, false, [], ve_d102)
def ve_e103 : ve_E := (⟨"RuleHouseModel", "round", "(II)I"⟩, prog_10_method_86_code, 4, some .int, 9, false, [], ve_d103)
def ve_e104 : ve_E := (⟨"RuleHouse$Engine", "<init>", "()V"⟩, prog_2_method_1_code, 1, none, 4, true, [], ve_d104)
def ve_e105 : ve_E := (⟨"RuleHouse$Engine", "makeModel", "(LRuleHouse$Program;)Z"⟩, prog_2_method_2_code, 6, some .boolean, 4, false, [], ve_d105)
def ve_e106 : ve_E := (⟨"RuleHouse$Engine", "addFacts", "()V"⟩, prog_2_method_3_code, 3, none, 4, false, [], ve_d106)
def ve_e107 : ve_E := (⟨"RuleHouse$Engine", "runRule", "(LRuleHouse$Rule;)V"⟩, prog_2_method_4_code, 5, none, 4, false, [], ve_d107)
def ve_e108 : ve_E := (⟨"RuleHouse$Engine", "collect", "(LRuleHouse$Program;LRuleHouse$Rule;LRuleHouse$Rows;)Z"⟩, prog_2_method_5_code, 4, some .boolean, 4, false, [], ve_d108)
def ve_e109 : ve_E := (⟨"RuleHouse$Engine", "walk", "(I)V"⟩, prog_2_method_6_code, 7, none, 4, false, [], ve_d109)
def ve_e110 : ve_E := (⟨"RuleHouse$Engine", "isFound", "()Z"⟩, prog_2_method_7_code, 1, some .boolean, 4, false, [], ve_d110)
def ve_e111 : ve_E := (⟨"RuleHouse$Engine", "fillGoal", "()V"⟩, prog_2_method_8_code, 2, none, 4, false, [], ve_d111)
def ve_e112 : ve_E := (⟨"RuleHouse$Engine", "take", "()V"⟩, prog_2_method_9_code, 1, none, 4, false, [], ve_d112)
def ve_e113 : ve_E := (⟨"RuleHouse$Engine", "addTuple", "()V"⟩, prog_2_method_10_code, 2, none, 4, false, [], ve_d113)
def ve_e114 : ve_E := (⟨"RuleHouse$Engine", "takeWay", "()V"⟩, prog_2_method_11_code, 4, none, 4, false, [], ve_d114)
def ve_e115 : ve_E := (⟨"RuleHouse$Engine", "firstAmount", "(J)J"⟩, prog_2_method_12_code, 3, some .long, 4, false, [], ve_d115)
def ve_e116 : ve_E := (⟨"RuleHouse$Engine", "nextAmount", "(JJ)J"⟩, prog_2_method_13_code, 5, some .long, 4, false, [], ve_d116)
def ve_e117 : ve_E := (⟨"RuleHouse$Engine", "addTotals", "()V"⟩, prog_2_method_14_code, 2, none, 4, false, [], ve_d117)
def ve_e118 : ve_E := (⟨"RuleHouse$Engine", "isInTime", "(II)Z"⟩, prog_2_method_15_code, 4, some .boolean, 4, false, [], ve_d118)
def ve_e119 : ve_E := (⟨"RuleHouse$Engine", "fits", "(III)Z"⟩, prog_2_method_16_code, 11, some .boolean, 4, false, [], ve_d119)
def ve_e120 : ve_E := (⟨"RuleHouse$Engine", "holds", "(II)Z"⟩, prog_2_method_17_code, 4, some .boolean, 4, false, [], ve_d120)
def ve_e121 : ve_E := (⟨"RuleHouse$Engine", "isThere", "(II)Z"⟩, prog_2_method_18_code, 6, some .boolean, 4, false, [], ve_d121)
def ve_e122 : ve_E := (⟨"RuleHouse$Engine", "rowOf", "(I)I"⟩, prog_2_method_19_code, 3, some .int, 4, false, [], ve_d122)
def ve_e123 : ve_E := (⟨"RuleHouse$Engine", "reckons", "(II)Z"⟩, prog_2_method_20_code, 11, some .boolean, 4, false, [], ve_d123)
def ve_e124 : ve_E := (⟨"RuleHouse$Engine", "reckoned", "(III)I"⟩, prog_2_method_21_code, 3, some .int, 4, false, [], ve_d124)
def ve_e125 : ve_E := (⟨"RuleHouse$Engine", "gives", "(JJI)Z"⟩, prog_2_method_22_code, 6, some .boolean, 4, false, [], ve_d125)
def ve_e126 : ve_E := (⟨"RuleHouse$Engine", "compares", "(I)Z"⟩, prog_2_method_23_code, 6, some .boolean, 4, false, [], ve_d126)
def ve_e127 : ve_E := (⟨"RuleHouse$Engine", "valueOf", "(J)J"⟩, prog_2_method_24_code, 3, some .long, 4, false, [], ve_d127)
def ve_e128 : ve_E := (⟨"RuleHouse$Engine", "isOpen", "(JI)Z"⟩, prog_2_method_25_code, 3, some .boolean, 4, false, [], ve_d128)
def ve_e129 : ve_E := (⟨"RuleHouse$Engine", "isNumber", "(J)Z"⟩, prog_2_method_26_code, 2, some .boolean, 4, false, [], ve_d129)
def ve_e130 : ve_E := (⟨"RuleHouse$Model", "<init>", "()V"⟩, prog_3_method_1_code, 1, none, 8, true, [], ve_d130)
def ve_e131 : ve_E := (⟨"RuleHouse$Model", "clear", "()V"⟩, prog_3_method_2_code, 1, none, 8, false, [], ve_d131)
def ve_e132 : ve_E := (⟨"RuleHouse$Model", "link", "(III)V"⟩, prog_3_method_3_code, 4, none, 8, false, [], ve_d132)
def ve_e133 : ve_E := (⟨"RuleHouse$Model", "start", "(I)I"⟩, prog_3_method_4_code, 4, some .int, 8, false, [], ve_d133)
def ve_e134 : ve_E := (⟨"RuleHouse$Program", "<init>", "()V"⟩, prog_4_method_1_code, 2, none, 5, true, [], ve_d134)
def ve_e135 : ve_E := (⟨"RuleHouse$Program", "clear", "()V"⟩, prog_4_method_2_code, 1, none, 5, false, [], ve_d135)
def ve_e136 : ve_E := (⟨"RuleHouse$Program", "predicateNamed", "(J)I"⟩, prog_4_method_3_code, 4, some .int, 5, false, [], ve_d136)
def ve_e137 : ve_E := (⟨"RuleHouse$Program", "addPredicate", "(J)I"⟩, prog_4_method_4_code, 3, some .int, 5, false, [], ve_d137)
def ve_e138 : ve_E := (⟨"RuleHouse$Program", "rulesOf", "(I)I"⟩, prog_4_method_5_code, 4, some .int, 5, false, [], ve_d138)
def ve_e139 : ve_E := (⟨"RuleHouse$Program", "findHanging", "()V"⟩, prog_4_method_6_code, 3, none, 5, false, [], ve_d139)
def ve_e140 : ve_E := (⟨"RuleHouse$Program", "hangingPlace", "()I"⟩, prog_4_method_7_code, 4, some .int, 5, false, [], ve_d140)
def ve_e141 : ve_E := (⟨"RuleHouse$Program", "comesBack", "(II)Z"⟩, prog_4_method_8_code, 3, some .boolean, 5, false, [], ve_d141)
def ve_e142 : ve_E := (⟨"RuleHouse$Program", "findStrata", "()V"⟩, prog_4_method_9_code, 4, none, 5, false, [], ve_d142)
def ve_e143 : ve_E := (⟨"RuleHouse$Program", "raise", "(LRuleHouse$Rule;)Z"⟩, prog_4_method_10_code, 5, some .boolean, 5, false, [], ve_d143)
def ve_e144 : ve_E := (⟨"RuleHouse$Reader", "<init>", "(LRuleHouse$Tape;)V"⟩, prog_5_method_1_code, 2, none, 3, true, [], ve_d144)
def ve_e145 : ve_E := (⟨"RuleHouse$Reader", "readProgram", "(LRuleHouse$Program;)V"⟩, prog_5_method_2_code, 4, none, 3, false, [], ve_d145)
def ve_e146 : ve_E := (⟨"RuleHouse$Reader", "readFact", "(LRuleHouse$Program;)V"⟩, prog_5_method_3_code, 2, none, 3, false, [], ve_d146)
def ve_e147 : ve_E := (⟨"RuleHouse$Reader", "readQuestion", "(LRuleHouse$Program;)V"⟩, prog_5_method_4_code, 2, none, 3, false, [], ve_d147)
def ve_e148 : ve_E := (⟨"RuleHouse$Reader", "start", "(LRuleHouse$Program;Z)V"⟩, prog_5_method_5_code, 3, none, 3, false, [], ve_d148)
def ve_e149 : ve_E := (⟨"RuleHouse$Reader", "startRule", "(LRuleHouse$Rule;)V"⟩, prog_5_method_6_code, 2, none, 3, false, [], ve_d149)
def ve_e150 : ve_E := (⟨"RuleHouse$Reader", "readClause", "()Z"⟩, prog_5_method_7_code, 3, some .boolean, 3, false, [], ve_d150)
def ve_e151 : ve_E := (⟨"RuleHouse$Reader", "checkFact", "()Z"⟩, prog_5_method_8_code, 2, some .boolean, 3, false, [], ve_d151)
def ve_e152 : ve_E := (⟨"RuleHouse$Reader", "checkEnd", "()Z"⟩, prog_5_method_9_code, 1, some .boolean, 3, false, [], ve_d152)
def ve_e153 : ve_E := (⟨"RuleHouse$Reader", "checkBound", "(I)V"⟩, prog_5_method_10_code, 3, none, 3, false, [], ve_d153)
def ve_e154 : ve_E := (⟨"RuleHouse$Reader", "readBody", "()Z"⟩, prog_5_method_11_code, 3, some .boolean, 3, false, [], ve_d154)
def ve_e155 : ve_E := (⟨"RuleHouse$Reader", "readLiteral", "(I)Z"⟩, prog_5_method_12_code, 2, some .boolean, 3, false, [], ve_d155)
def ve_e156 : ve_E := (⟨"RuleHouse$Reader", "readRelation", "(I)Z"⟩, prog_5_method_13_code, 6, some .boolean, 3, false, [], ve_d156)
def ve_e157 : ve_E := (⟨"RuleHouse$Reader", "readAtom", "(I)Z"⟩, prog_5_method_14_code, 7, some .boolean, 3, false, [], ve_d157)
def ve_e158 : ve_E := (⟨"RuleHouse$Reader", "checkArguments", "(II)V"⟩, prog_5_method_15_code, 3, none, 3, false, [], ve_d158)
def ve_e159 : ve_E := (⟨"RuleHouse$Reader", "openTotal", "(I)Z"⟩, prog_5_method_16_code, 2, some .boolean, 3, false, [], ve_d159)
def ve_e160 : ve_E := (⟨"RuleHouse$Reader", "readTerm", "(II)Z"⟩, prog_5_method_17_code, 6, some .boolean, 3, false, [], ve_d160)
def ve_e161 : ve_E := (⟨"RuleHouse$Reader", "variableIndex", "()I"⟩, prog_5_method_18_code, 2, some .int, 3, false, [], ve_d161)
def ve_e162 : ve_E := (⟨"RuleHouse$Reader", "kind", "()I"⟩, prog_5_method_19_code, 1, some .int, 3, false, [], ve_d162)
def ve_e163 : ve_E := (⟨"RuleHouse$Reader", "place", "()I"⟩, prog_5_method_20_code, 1, some .int, 3, false, [], ve_d163)
def ve_e164 : ve_E := (⟨"RuleHouse$Reader", "accept", "(I)Z"⟩, prog_5_method_21_code, 2, some .boolean, 3, false, [], ve_d164)
def ve_e165 : ve_E := (⟨"RuleHouse$Reader", "expect", "(I)Z"⟩, prog_5_method_22_code, 2, some .boolean, 3, false, [], ve_d165)
def ve_e166 : ve_E := (⟨"RuleHouse$Reader", "refuse", "(I)Z"⟩, prog_5_method_23_code, 2, some .boolean, 3, false, [], ve_d166)
def ve_e167 : ve_E := (⟨"RuleHouse$Reader", "note", "(II)V"⟩, prog_5_method_24_code, 3, none, 3, false, [], ve_d167)
def ve_e168 : ve_E := (⟨"RuleHouse$Reader", "isTotal", "(I)Z"⟩, prog_5_method_25_code, 1, some .boolean, 3, false, [], ve_d168)
def ve_e169 : ve_E := (⟨"RuleHouse$Reader", "isRelation", "(I)Z"⟩, prog_5_method_26_code, 1, some .boolean, 3, false, [], ve_d169)
def ve_e170 : ve_E := (⟨"RuleHouse$Reader", "isOperation", "(I)Z"⟩, prog_5_method_27_code, 1, some .boolean, 3, false, [], ve_d170)
def ve_e171 : ve_E := (⟨"RuleHouse$Rows", "<init>", "(I)V"⟩, prog_6_method_1_code, 2, none, 6, true, [], ve_d171)
def ve_e172 : ve_E := (⟨"RuleHouse$Rows", "clear", "()V"⟩, prog_6_method_2_code, 1, none, 6, false, [], ve_d172)
def ve_e173 : ve_E := (⟨"RuleHouse$Rows", "find", "([J)I"⟩, prog_6_method_3_code, 2, some .int, 6, false, [], ve_d173)
def ve_e174 : ve_E := (⟨"RuleHouse$Rows", "add", "([J)I"⟩, prog_6_method_4_code, 3, some .int, 6, false, [], ve_d174)
def ve_e175 : ve_E := (⟨"RuleHouse$Rows", "remove", "(I)V"⟩, prog_6_method_5_code, 3, none, 6, false, [], ve_d175)
def ve_e176 : ve_E := (⟨"RuleHouse$Rows", "slotOf", "([JI)I"⟩, prog_6_method_6_code, 9, some .int, 6, false, [], ve_d176)
def ve_e177 : ve_E := (⟨"RuleHouse$Rows", "countOf", "(I)I"⟩, prog_6_method_7_code, 4, some .int, 6, false, [], ve_d177)
def ve_e178 : ve_E := (⟨"RuleHouse$Rows", "sort", "()V"⟩, prog_6_method_8_code, 4, none, 6, false, [], ve_d178)
def ve_e179 : ve_E := (⟨"RuleHouse$Rows", "isAhead", "(II)Z"⟩, prog_6_method_9_code, 4, some .boolean, 6, false, [], ve_d179)
def ve_e180 : ve_E := (⟨"RuleHouse$Rows", "inOrder", "(II)J"⟩, prog_6_method_10_code, 3, some .long, 6, false, [], ve_d180)
def ve_e181 : ve_E := (⟨"RuleHouse$Rule", "<init>", "()V"⟩, prog_7_method_1_code, 1, none, 7, true, [], ve_d181)
def ve_e182 : ve_E := (⟨"RuleHouse$Rule", "clear", "()V"⟩, prog_7_method_2_code, 1, none, 7, false, [], ve_d182)
def ve_e183 : ve_E := (⟨"RuleHouse$Rule", "setLiteral", "(III[J)V"⟩, prog_7_method_3_code, 5, none, 7, false, [], ve_d183)
def ve_e184 : ve_E := (⟨"RuleHouse$Rule", "asks", "(I)Z"⟩, prog_7_method_4_code, 2, some .boolean, 7, false, [], ve_d184)
def ve_e185 : ve_E := (⟨"RuleHouse$Rule", "plan", "()I"⟩, prog_7_method_5_code, 6, some .int, 7, false, [], ve_d185)
def ve_e186 : ve_E := (⟨"RuleHouse$Rule", "nextLiteral", "(II)I"⟩, prog_7_method_6_code, 5, some .int, 7, false, [], ve_d186)
def ve_e187 : ve_E := (⟨"RuleHouse$Rule", "isReady", "(II)Z"⟩, prog_7_method_7_code, 4, some .boolean, 7, false, [], ve_d187)
def ve_e188 : ve_E := (⟨"RuleHouse$Rule", "isKnown", "(II)Z"⟩, prog_7_method_8_code, 4, some .boolean, 7, false, [], ve_d188)
def ve_e189 : ve_E := (⟨"RuleHouse$Rule", "variablesOf", "(I)I"⟩, prog_7_method_9_code, 2, some .int, 7, false, [], ve_d189)
def ve_e190 : ve_E := (⟨"RuleHouse$Rule", "variablesIn", "([JII)I"⟩, prog_7_method_10_code, 5, some .int, 7, false, [], ve_d190)
def ve_e191 : ve_E := (⟨"RuleHouse$Tape", "<init>", "()V"⟩, prog_8_method_1_code, 1, none, 2, true, [], ve_d191)
def ve_e192 : ve_E := (⟨"RuleHouse$Tape", "append", "(JI)Z"⟩, prog_8_method_2_code, 6, some .boolean, 2, false, [], ve_d192)
def ve_e193 : ve_E := (⟨"RuleHouse$Tape", "clear", "()V"⟩, prog_8_method_3_code, 1, none, 2, false, [], ve_d193)
def ve_e194 : ve_E := (⟨"RuleHouse$Tape", "scan", "()V"⟩, prog_8_method_4_code, 3, none, 2, false, [], ve_d194)
def ve_e195 : ve_E := (⟨"RuleHouse$Tape", "scanToken", "(I)I"⟩, prog_8_method_5_code, 5, some .int, 2, false, [], ve_d195)
def ve_e196 : ve_E := (⟨"RuleHouse$Tape", "endOfWord", "(IZ)I"⟩, prog_8_method_6_code, 4, some .int, 2, false, [], ve_d196)
def ve_e197 : ve_E := (⟨"RuleHouse$Tape", "endOfDigits", "(I)I"⟩, prog_8_method_7_code, 3, some .int, 2, false, [], ve_d197)
def ve_e198 : ve_E := (⟨"RuleHouse$Tape", "putBad", "(I)I"⟩, prog_8_method_8_code, 2, some .int, 2, false, [], ve_d198)
def ve_e199 : ve_E := (⟨"RuleHouse$Tape", "putName", "(II)I"⟩, prog_8_method_9_code, 4, some .int, 2, false, [], ve_d199)
def ve_e200 : ve_E := (⟨"RuleHouse$Tape", "putPacked", "(III)I"⟩, prog_8_method_10_code, 7, some .int, 2, false, [], ve_d200)
def ve_e201 : ve_E := (⟨"RuleHouse$Tape", "putNumber", "(II)I"⟩, prog_8_method_11_code, 6, some .int, 2, false, [], ve_d201)
def ve_e202 : ve_E := (⟨"RuleHouse$Tape", "put", "(IIJ)V"⟩, prog_8_method_12_code, 5, none, 2, false, [], ve_d202)
def ve_e203 : ve_E := (⟨"RuleHouse$Tape", "nameKind", "(J)I"⟩, prog_8_method_13_code, 2, some .int, 2, false, [], ve_d203)
def ve_e204 : ve_E := (⟨"RuleHouse$Tape", "pairKind", "(II)I"⟩, prog_8_method_14_code, 2, some .int, 2, false, [], ve_d204)
def ve_e205 : ve_E := (⟨"RuleHouse$Tape", "isSign", "(I)Z"⟩, prog_8_method_15_code, 1, some .boolean, 2, false, [], ve_d205)
def ve_e206 : ve_E := (⟨"RuleHouse$Tape", "isSmall", "(I)Z"⟩, prog_8_method_16_code, 1, some .boolean, 2, false, [], ve_d206)
def ve_e207 : ve_E := (⟨"RuleHouse$Tape", "isGreat", "(I)Z"⟩, prog_8_method_17_code, 1, some .boolean, 2, false, [], ve_d207)
def ve_e208 : ve_E := (⟨"RuleHouse$Tape", "isDigit", "(I)Z"⟩, prog_8_method_18_code, 1, some .boolean, 2, false, [], ve_d208)
def ve_e209 : ve_E := (⟨"RuleHouseLaw", "program", "(LRuleHouse;[J)I"⟩, method_3_code, 3, some .int, 13, false, [(0, 8, 11, 13)], ve_d209)
def ve_e210 : ve_E := (⟨"RuleHouseLaw", "fact", "(LRuleHouse;I[J)I"⟩, method_4_code, 4, some .int, 13, false, [(0, 16, 19, 13), (0, 16, 22, 19)], ve_d210)
def ve_e211 : ve_E := (⟨"RuleHouseLaw", "solve", "(LRuleHouse;[J)I"⟩, method_5_code, 3, some .int, 13, false, [(0, 8, 11, 19)], ve_d211)
def ve_e212 : ve_E := (⟨"RuleHouseLaw", "ask", "(LRuleHouse;[J)I"⟩, method_6_code, 3, some .int, 13, false, [(0, 8, 11, 13), (0, 8, 14, 19)], ve_d212)
def ve_e213 : ve_E := (⟨"RuleHouseLaw", "answer", "(LRuleHouse;II[J)I"⟩, method_7_code, 5, some .int, 13, false, [(0, 9, 12, 31)], ve_d213)
def ve_e214 : ve_E := (⟨"RuleHouseLaw", "tuple", "(LRuleHouse;III[J)I"⟩, method_8_code, 6, some .int, 13, false, [(0, 11, 14, 31)], ve_d214)
def ve_e215 : ve_E := (⟨"RuleHouseLaw", "round", "(LRuleHouse;II[J)I"⟩, method_9_code, 5, some .int, 13, false, [(0, 10, 13, 31)], ve_d215)
def ve_e216 : ve_E := (⟨"RuleHouseLaw", "law", "([I)Z"⟩, code, 8, some .boolean, 13, false, [], ve_d216)
def ve_e217 : ve_E := (⟨"java/util/Arrays", "fill", "([II)V"⟩, prog_18_method_103_code, 4, none, 14, false, [], ve_d217)
def ve_e218 : ve_E := (⟨"java/util/Arrays", "fill", "([JJ)V"⟩, prog_18_method_101_code, 5, none, 14, false, [], ve_d218)
def ve_e219 : ve_E := (⟨"java/lang/Math", "max", "(II)I"⟩, prog_14_method_65_code, 2, some .int, 15, false, [], ve_d219)
def ve_e220 : ve_E := (⟨"java/lang/Math", "max", "(JJ)J"⟩, prog_14_method_66_code, 4, some .long, 15, false, [], ve_d220)
def ve_e221 : ve_E := (⟨"java/lang/Math", "min", "(JJ)J"⟩, prog_14_method_70_code, 4, some .long, 15, false, [], ve_d221)
def ve_q0 : List ve_E := [ve_e0, ve_e1, ve_e2, ve_e3, ve_e4, ve_e5, ve_e6, ve_e7, ve_e8, ve_e9, ve_e10, ve_e11, ve_e12, ve_e13, ve_e14, ve_e15]
def ve_q1 : List ve_E := [ve_e16, ve_e17, ve_e18, ve_e19, ve_e20, ve_e21, ve_e22, ve_e23, ve_e24, ve_e25, ve_e26, ve_e27, ve_e28, ve_e29, ve_e30, ve_e31]
def ve_q2 : List ve_E := [ve_e32, ve_e33, ve_e34, ve_e35, ve_e36, ve_e37, ve_e38, ve_e39, ve_e40, ve_e41, ve_e42, ve_e43, ve_e44, ve_e45, ve_e46, ve_e47]
def ve_q3 : List ve_E := [ve_e48, ve_e49, ve_e50, ve_e51, ve_e52, ve_e53, ve_e54, ve_e55, ve_e56, ve_e57, ve_e58, ve_e59, ve_e60, ve_e61, ve_e62, ve_e63]
def ve_q4 : List ve_E := [ve_e64, ve_e65, ve_e66, ve_e67, ve_e68, ve_e69, ve_e70, ve_e71, ve_e72, ve_e73, ve_e74, ve_e75, ve_e76, ve_e77, ve_e78, ve_e79]
def ve_q5 : List ve_E := [ve_e80, ve_e81, ve_e82, ve_e83, ve_e84, ve_e85, ve_e86, ve_e87, ve_e88, ve_e89, ve_e90, ve_e91, ve_e92, ve_e93, ve_e94, ve_e95]
def ve_q6 : List ve_E := [ve_e96, ve_e97, ve_e98, ve_e99, ve_e100, ve_e101, ve_e102, ve_e103, ve_e104, ve_e105, ve_e106, ve_e107, ve_e108, ve_e109, ve_e110, ve_e111]
def ve_q7 : List ve_E := [ve_e112, ve_e113, ve_e114, ve_e115, ve_e116, ve_e117, ve_e118, ve_e119, ve_e120, ve_e121, ve_e122, ve_e123, ve_e124, ve_e125, ve_e126, ve_e127]
def ve_q8 : List ve_E := [ve_e128, ve_e129, ve_e130, ve_e131, ve_e132, ve_e133, ve_e134, ve_e135, ve_e136, ve_e137, ve_e138, ve_e139, ve_e140, ve_e141, ve_e142, ve_e143]
def ve_q9 : List ve_E := [ve_e144, ve_e145, ve_e146, ve_e147, ve_e148, ve_e149, ve_e150, ve_e151, ve_e152, ve_e153, ve_e154, ve_e155, ve_e156, ve_e157, ve_e158, ve_e159]
def ve_q10 : List ve_E := [ve_e160, ve_e161, ve_e162, ve_e163, ve_e164, ve_e165, ve_e166, ve_e167, ve_e168, ve_e169, ve_e170, ve_e171, ve_e172, ve_e173, ve_e174, ve_e175]
def ve_q11 : List ve_E := [ve_e176, ve_e177, ve_e178, ve_e179, ve_e180, ve_e181, ve_e182, ve_e183, ve_e184, ve_e185, ve_e186, ve_e187, ve_e188, ve_e189, ve_e190, ve_e191]
def ve_q12 : List ve_E := [ve_e192, ve_e193, ve_e194, ve_e195, ve_e196, ve_e197, ve_e198, ve_e199, ve_e200, ve_e201, ve_e202, ve_e203, ve_e204, ve_e205, ve_e206, ve_e207]
def ve_q13 : List ve_E := [ve_e208, ve_e209, ve_e210, ve_e211, ve_e212, ve_e213, ve_e214, ve_e215, ve_e216, ve_e217, ve_e218, ve_e219, ve_e220, ve_e221]
def ve_gs : List (List ve_E) := [ve_q0, ve_q1, ve_q2, ve_q3, ve_q4, ve_q5, ve_q6, ve_q7, ve_q8, ve_q9, ve_q10, ve_q11, ve_q12, ve_q13]
def ve_e0n : ve_E := (⟨"", "", ""⟩, ⟨#[]⟩, 0, none, 0, false, [], [])
def ve_e (mi : Nat) : ve_E := (ve_gs.getD (mi / 16) []).getD (mi % 16) ve_e0n
def ve_dok (r : ve_E) : Prop := r.2.2.2.2.2.2.2.all (fun l => l.all (fun q => decide (decode r.2.1 q.1 = .ok (q.2.1, q.2.2)))) = true
theorem ve_gk0 : ∀ r ∈ ve_q0, ve_dok r := List.forall_mem_cons.mpr ⟨ve_k0, List.forall_mem_cons.mpr ⟨ve_k1, List.forall_mem_cons.mpr ⟨ve_k2, List.forall_mem_cons.mpr ⟨ve_k3, List.forall_mem_cons.mpr ⟨ve_k4, List.forall_mem_cons.mpr ⟨ve_k5, List.forall_mem_cons.mpr ⟨ve_k6, List.forall_mem_cons.mpr ⟨ve_k7, List.forall_mem_cons.mpr ⟨ve_k8, List.forall_mem_cons.mpr ⟨ve_k9, List.forall_mem_cons.mpr ⟨ve_k10, List.forall_mem_cons.mpr ⟨ve_k11, List.forall_mem_cons.mpr ⟨ve_k12, List.forall_mem_cons.mpr ⟨ve_k13, List.forall_mem_cons.mpr ⟨ve_k14, List.forall_mem_cons.mpr ⟨ve_k15, fun _ h => absurd h List.not_mem_nil⟩⟩⟩⟩⟩⟩⟩⟩⟩⟩⟩⟩⟩⟩⟩⟩
theorem ve_gk1 : ∀ r ∈ ve_q1, ve_dok r := List.forall_mem_cons.mpr ⟨ve_k16, List.forall_mem_cons.mpr ⟨ve_k17, List.forall_mem_cons.mpr ⟨ve_k18, List.forall_mem_cons.mpr ⟨ve_k19, List.forall_mem_cons.mpr ⟨ve_k20, List.forall_mem_cons.mpr ⟨ve_k21, List.forall_mem_cons.mpr ⟨ve_k22, List.forall_mem_cons.mpr ⟨ve_k23, List.forall_mem_cons.mpr ⟨ve_k24, List.forall_mem_cons.mpr ⟨ve_k25, List.forall_mem_cons.mpr ⟨ve_k26, List.forall_mem_cons.mpr ⟨ve_k27, List.forall_mem_cons.mpr ⟨ve_k28, List.forall_mem_cons.mpr ⟨ve_k29, List.forall_mem_cons.mpr ⟨ve_k30, List.forall_mem_cons.mpr ⟨ve_k31, fun _ h => absurd h List.not_mem_nil⟩⟩⟩⟩⟩⟩⟩⟩⟩⟩⟩⟩⟩⟩⟩⟩
theorem ve_gk2 : ∀ r ∈ ve_q2, ve_dok r := List.forall_mem_cons.mpr ⟨ve_k32, List.forall_mem_cons.mpr ⟨ve_k33, List.forall_mem_cons.mpr ⟨ve_k34, List.forall_mem_cons.mpr ⟨ve_k35, List.forall_mem_cons.mpr ⟨ve_k36, List.forall_mem_cons.mpr ⟨ve_k37, List.forall_mem_cons.mpr ⟨ve_k38, List.forall_mem_cons.mpr ⟨ve_k39, List.forall_mem_cons.mpr ⟨ve_k40, List.forall_mem_cons.mpr ⟨ve_k41, List.forall_mem_cons.mpr ⟨ve_k42, List.forall_mem_cons.mpr ⟨ve_k43, List.forall_mem_cons.mpr ⟨ve_k44, List.forall_mem_cons.mpr ⟨ve_k45, List.forall_mem_cons.mpr ⟨ve_k46, List.forall_mem_cons.mpr ⟨ve_k47, fun _ h => absurd h List.not_mem_nil⟩⟩⟩⟩⟩⟩⟩⟩⟩⟩⟩⟩⟩⟩⟩⟩
theorem ve_gk3 : ∀ r ∈ ve_q3, ve_dok r := List.forall_mem_cons.mpr ⟨ve_k48, List.forall_mem_cons.mpr ⟨ve_k49, List.forall_mem_cons.mpr ⟨ve_k50, List.forall_mem_cons.mpr ⟨ve_k51, List.forall_mem_cons.mpr ⟨ve_k52, List.forall_mem_cons.mpr ⟨ve_k53, List.forall_mem_cons.mpr ⟨ve_k54, List.forall_mem_cons.mpr ⟨ve_k55, List.forall_mem_cons.mpr ⟨ve_k56, List.forall_mem_cons.mpr ⟨ve_k57, List.forall_mem_cons.mpr ⟨ve_k58, List.forall_mem_cons.mpr ⟨ve_k59, List.forall_mem_cons.mpr ⟨ve_k60, List.forall_mem_cons.mpr ⟨ve_k61, List.forall_mem_cons.mpr ⟨ve_k62, List.forall_mem_cons.mpr ⟨ve_k63, fun _ h => absurd h List.not_mem_nil⟩⟩⟩⟩⟩⟩⟩⟩⟩⟩⟩⟩⟩⟩⟩⟩
theorem ve_gk4 : ∀ r ∈ ve_q4, ve_dok r := List.forall_mem_cons.mpr ⟨ve_k64, List.forall_mem_cons.mpr ⟨ve_k65, List.forall_mem_cons.mpr ⟨ve_k66, List.forall_mem_cons.mpr ⟨ve_k67, List.forall_mem_cons.mpr ⟨ve_k68, List.forall_mem_cons.mpr ⟨ve_k69, List.forall_mem_cons.mpr ⟨ve_k70, List.forall_mem_cons.mpr ⟨ve_k71, List.forall_mem_cons.mpr ⟨ve_k72, List.forall_mem_cons.mpr ⟨ve_k73, List.forall_mem_cons.mpr ⟨ve_k74, List.forall_mem_cons.mpr ⟨ve_k75, List.forall_mem_cons.mpr ⟨ve_k76, List.forall_mem_cons.mpr ⟨ve_k77, List.forall_mem_cons.mpr ⟨ve_k78, List.forall_mem_cons.mpr ⟨ve_k79, fun _ h => absurd h List.not_mem_nil⟩⟩⟩⟩⟩⟩⟩⟩⟩⟩⟩⟩⟩⟩⟩⟩
theorem ve_gk5 : ∀ r ∈ ve_q5, ve_dok r := List.forall_mem_cons.mpr ⟨ve_k80, List.forall_mem_cons.mpr ⟨ve_k81, List.forall_mem_cons.mpr ⟨ve_k82, List.forall_mem_cons.mpr ⟨ve_k83, List.forall_mem_cons.mpr ⟨ve_k84, List.forall_mem_cons.mpr ⟨ve_k85, List.forall_mem_cons.mpr ⟨ve_k86, List.forall_mem_cons.mpr ⟨ve_k87, List.forall_mem_cons.mpr ⟨ve_k88, List.forall_mem_cons.mpr ⟨ve_k89, List.forall_mem_cons.mpr ⟨ve_k90, List.forall_mem_cons.mpr ⟨ve_k91, List.forall_mem_cons.mpr ⟨ve_k92, List.forall_mem_cons.mpr ⟨ve_k93, List.forall_mem_cons.mpr ⟨ve_k94, List.forall_mem_cons.mpr ⟨ve_k95, fun _ h => absurd h List.not_mem_nil⟩⟩⟩⟩⟩⟩⟩⟩⟩⟩⟩⟩⟩⟩⟩⟩
theorem ve_gk6 : ∀ r ∈ ve_q6, ve_dok r := List.forall_mem_cons.mpr ⟨ve_k96, List.forall_mem_cons.mpr ⟨ve_k97, List.forall_mem_cons.mpr ⟨ve_k98, List.forall_mem_cons.mpr ⟨ve_k99, List.forall_mem_cons.mpr ⟨ve_k100, List.forall_mem_cons.mpr ⟨ve_k101, List.forall_mem_cons.mpr ⟨ve_k102, List.forall_mem_cons.mpr ⟨ve_k103, List.forall_mem_cons.mpr ⟨ve_k104, List.forall_mem_cons.mpr ⟨ve_k105, List.forall_mem_cons.mpr ⟨ve_k106, List.forall_mem_cons.mpr ⟨ve_k107, List.forall_mem_cons.mpr ⟨ve_k108, List.forall_mem_cons.mpr ⟨ve_k109, List.forall_mem_cons.mpr ⟨ve_k110, List.forall_mem_cons.mpr ⟨ve_k111, fun _ h => absurd h List.not_mem_nil⟩⟩⟩⟩⟩⟩⟩⟩⟩⟩⟩⟩⟩⟩⟩⟩
theorem ve_gk7 : ∀ r ∈ ve_q7, ve_dok r := List.forall_mem_cons.mpr ⟨ve_k112, List.forall_mem_cons.mpr ⟨ve_k113, List.forall_mem_cons.mpr ⟨ve_k114, List.forall_mem_cons.mpr ⟨ve_k115, List.forall_mem_cons.mpr ⟨ve_k116, List.forall_mem_cons.mpr ⟨ve_k117, List.forall_mem_cons.mpr ⟨ve_k118, List.forall_mem_cons.mpr ⟨ve_k119, List.forall_mem_cons.mpr ⟨ve_k120, List.forall_mem_cons.mpr ⟨ve_k121, List.forall_mem_cons.mpr ⟨ve_k122, List.forall_mem_cons.mpr ⟨ve_k123, List.forall_mem_cons.mpr ⟨ve_k124, List.forall_mem_cons.mpr ⟨ve_k125, List.forall_mem_cons.mpr ⟨ve_k126, List.forall_mem_cons.mpr ⟨ve_k127, fun _ h => absurd h List.not_mem_nil⟩⟩⟩⟩⟩⟩⟩⟩⟩⟩⟩⟩⟩⟩⟩⟩
theorem ve_gk8 : ∀ r ∈ ve_q8, ve_dok r := List.forall_mem_cons.mpr ⟨ve_k128, List.forall_mem_cons.mpr ⟨ve_k129, List.forall_mem_cons.mpr ⟨ve_k130, List.forall_mem_cons.mpr ⟨ve_k131, List.forall_mem_cons.mpr ⟨ve_k132, List.forall_mem_cons.mpr ⟨ve_k133, List.forall_mem_cons.mpr ⟨ve_k134, List.forall_mem_cons.mpr ⟨ve_k135, List.forall_mem_cons.mpr ⟨ve_k136, List.forall_mem_cons.mpr ⟨ve_k137, List.forall_mem_cons.mpr ⟨ve_k138, List.forall_mem_cons.mpr ⟨ve_k139, List.forall_mem_cons.mpr ⟨ve_k140, List.forall_mem_cons.mpr ⟨ve_k141, List.forall_mem_cons.mpr ⟨ve_k142, List.forall_mem_cons.mpr ⟨ve_k143, fun _ h => absurd h List.not_mem_nil⟩⟩⟩⟩⟩⟩⟩⟩⟩⟩⟩⟩⟩⟩⟩⟩
theorem ve_gk9 : ∀ r ∈ ve_q9, ve_dok r := List.forall_mem_cons.mpr ⟨ve_k144, List.forall_mem_cons.mpr ⟨ve_k145, List.forall_mem_cons.mpr ⟨ve_k146, List.forall_mem_cons.mpr ⟨ve_k147, List.forall_mem_cons.mpr ⟨ve_k148, List.forall_mem_cons.mpr ⟨ve_k149, List.forall_mem_cons.mpr ⟨ve_k150, List.forall_mem_cons.mpr ⟨ve_k151, List.forall_mem_cons.mpr ⟨ve_k152, List.forall_mem_cons.mpr ⟨ve_k153, List.forall_mem_cons.mpr ⟨ve_k154, List.forall_mem_cons.mpr ⟨ve_k155, List.forall_mem_cons.mpr ⟨ve_k156, List.forall_mem_cons.mpr ⟨ve_k157, List.forall_mem_cons.mpr ⟨ve_k158, List.forall_mem_cons.mpr ⟨ve_k159, fun _ h => absurd h List.not_mem_nil⟩⟩⟩⟩⟩⟩⟩⟩⟩⟩⟩⟩⟩⟩⟩⟩
theorem ve_gk10 : ∀ r ∈ ve_q10, ve_dok r := List.forall_mem_cons.mpr ⟨ve_k160, List.forall_mem_cons.mpr ⟨ve_k161, List.forall_mem_cons.mpr ⟨ve_k162, List.forall_mem_cons.mpr ⟨ve_k163, List.forall_mem_cons.mpr ⟨ve_k164, List.forall_mem_cons.mpr ⟨ve_k165, List.forall_mem_cons.mpr ⟨ve_k166, List.forall_mem_cons.mpr ⟨ve_k167, List.forall_mem_cons.mpr ⟨ve_k168, List.forall_mem_cons.mpr ⟨ve_k169, List.forall_mem_cons.mpr ⟨ve_k170, List.forall_mem_cons.mpr ⟨ve_k171, List.forall_mem_cons.mpr ⟨ve_k172, List.forall_mem_cons.mpr ⟨ve_k173, List.forall_mem_cons.mpr ⟨ve_k174, List.forall_mem_cons.mpr ⟨ve_k175, fun _ h => absurd h List.not_mem_nil⟩⟩⟩⟩⟩⟩⟩⟩⟩⟩⟩⟩⟩⟩⟩⟩
theorem ve_gk11 : ∀ r ∈ ve_q11, ve_dok r := List.forall_mem_cons.mpr ⟨ve_k176, List.forall_mem_cons.mpr ⟨ve_k177, List.forall_mem_cons.mpr ⟨ve_k178, List.forall_mem_cons.mpr ⟨ve_k179, List.forall_mem_cons.mpr ⟨ve_k180, List.forall_mem_cons.mpr ⟨ve_k181, List.forall_mem_cons.mpr ⟨ve_k182, List.forall_mem_cons.mpr ⟨ve_k183, List.forall_mem_cons.mpr ⟨ve_k184, List.forall_mem_cons.mpr ⟨ve_k185, List.forall_mem_cons.mpr ⟨ve_k186, List.forall_mem_cons.mpr ⟨ve_k187, List.forall_mem_cons.mpr ⟨ve_k188, List.forall_mem_cons.mpr ⟨ve_k189, List.forall_mem_cons.mpr ⟨ve_k190, List.forall_mem_cons.mpr ⟨ve_k191, fun _ h => absurd h List.not_mem_nil⟩⟩⟩⟩⟩⟩⟩⟩⟩⟩⟩⟩⟩⟩⟩⟩
theorem ve_gk12 : ∀ r ∈ ve_q12, ve_dok r := List.forall_mem_cons.mpr ⟨ve_k192, List.forall_mem_cons.mpr ⟨ve_k193, List.forall_mem_cons.mpr ⟨ve_k194, List.forall_mem_cons.mpr ⟨ve_k195, List.forall_mem_cons.mpr ⟨ve_k196, List.forall_mem_cons.mpr ⟨ve_k197, List.forall_mem_cons.mpr ⟨ve_k198, List.forall_mem_cons.mpr ⟨ve_k199, List.forall_mem_cons.mpr ⟨ve_k200, List.forall_mem_cons.mpr ⟨ve_k201, List.forall_mem_cons.mpr ⟨ve_k202, List.forall_mem_cons.mpr ⟨ve_k203, List.forall_mem_cons.mpr ⟨ve_k204, List.forall_mem_cons.mpr ⟨ve_k205, List.forall_mem_cons.mpr ⟨ve_k206, List.forall_mem_cons.mpr ⟨ve_k207, fun _ h => absurd h List.not_mem_nil⟩⟩⟩⟩⟩⟩⟩⟩⟩⟩⟩⟩⟩⟩⟩⟩
theorem ve_gk13 : ∀ r ∈ ve_q13, ve_dok r := List.forall_mem_cons.mpr ⟨ve_k208, List.forall_mem_cons.mpr ⟨ve_k209, List.forall_mem_cons.mpr ⟨ve_k210, List.forall_mem_cons.mpr ⟨ve_k211, List.forall_mem_cons.mpr ⟨ve_k212, List.forall_mem_cons.mpr ⟨ve_k213, List.forall_mem_cons.mpr ⟨ve_k214, List.forall_mem_cons.mpr ⟨ve_k215, List.forall_mem_cons.mpr ⟨ve_k216, List.forall_mem_cons.mpr ⟨ve_k217, List.forall_mem_cons.mpr ⟨ve_k218, List.forall_mem_cons.mpr ⟨ve_k219, List.forall_mem_cons.mpr ⟨ve_k220, List.forall_mem_cons.mpr ⟨ve_k221, fun _ h => absurd h List.not_mem_nil⟩⟩⟩⟩⟩⟩⟩⟩⟩⟩⟩⟩⟩⟩
theorem ve_gsk : ∀ g ∈ ve_gs, ∀ r ∈ g, ve_dok r := List.forall_mem_cons.mpr ⟨ve_gk0, List.forall_mem_cons.mpr ⟨ve_gk1, List.forall_mem_cons.mpr ⟨ve_gk2, List.forall_mem_cons.mpr ⟨ve_gk3, List.forall_mem_cons.mpr ⟨ve_gk4, List.forall_mem_cons.mpr ⟨ve_gk5, List.forall_mem_cons.mpr ⟨ve_gk6, List.forall_mem_cons.mpr ⟨ve_gk7, List.forall_mem_cons.mpr ⟨ve_gk8, List.forall_mem_cons.mpr ⟨ve_gk9, List.forall_mem_cons.mpr ⟨ve_gk10, List.forall_mem_cons.mpr ⟨ve_gk11, List.forall_mem_cons.mpr ⟨ve_gk12, List.forall_mem_cons.mpr ⟨ve_gk13, fun _ h => absurd h List.not_mem_nil⟩⟩⟩⟩⟩⟩⟩⟩⟩⟩⟩⟩⟩⟩
theorem ve_getD_mem {α : Type} (l : List α) (n : Nat) (d : α) : l.getD n d ∈ l ∨ l.getD n d = d := by
  rw [List.getD_eq_getElem?_getD]
  cases h : l[n]? with
  | none => exact Or.inr rfl
  | some x => exact Or.inl (List.mem_of_getElem? h)
theorem ve_e_mem (mi : Nat) : (∃ g ∈ ve_gs, ve_e mi ∈ g) ∨ ve_e mi = ve_e0n := by
  unfold ve_e
  rcases ve_getD_mem ve_gs (mi / 16) [] with h | h
  · rcases ve_getD_mem (ve_gs.getD (mi / 16) []) (mi % 16) ve_e0n with h2 | h2
    · exact Or.inl ⟨_, h, h2⟩
    · exact Or.inr h2
  · rw [h]
    exact Or.inr rfl
theorem ve_e_ok (mi : Nat) : ve_dok (ve_e mi) := by
  rcases ve_e_mem mi with ⟨g, hg, h⟩ | h
  · exact ve_gsk g hg _ h
  · rw [h]; rfl
def ve_lk : List (Nat × Instr × Nat) → Nat → Option (Instr × Nat)
  | [], _ => none
  | q :: r, pc => bif q.1.beq pc then some q.2 else ve_lk r pc
theorem ve_lk_mem : ∀ (l : List (Nat × Instr × Nat)) (pc : Nat) (x : Instr × Nat), ve_lk l pc = some x → (pc, x) ∈ l
  | [], pc, x, h => by cases h
  | q :: r, pc, x, h => by
    unfold ve_lk at h
    cases hb : q.1.beq pc with
    | true =>
      rw [hb] at h
      have h1 : some q.2 = some x := h
      have h2 := Nat.eq_of_beq_eq_true hb
      have h3 : q = (pc, x) := by rw [← Option.some.inj h1, ← h2]
      rw [h3]
      exact List.mem_cons_self
    | false =>
      rw [hb] at h
      exact List.mem_cons_of_mem _ (ve_lk_mem r pc x h)
def ve_yy (mi : Nat) : MethodName := (ve_e mi).1
def ve_cc (mi : Nat) : ByteArray := (ve_e mi).2.1
def ve_ml (mi : Nat) : Nat := (ve_e mi).2.2.1
def ve_rt (mi : Nat) : Option FieldType := (ve_e mi).2.2.2.1
def ve_ow (mi : Nat) : Nat := (ve_e mi).2.2.2.2.1
def ve_ini (mi : Nat) : Bool := (ve_e mi).2.2.2.2.2.1
def ve_hs (mi : Nat) : List (Nat × Nat × Nat × Nat) := (ve_e mi).2.2.2.2.2.2.1
def ve_f (mi pc : Nat) : Option (Instr × Nat) := ve_lk ((ve_e mi).2.2.2.2.2.2.2.getD (pc / 32) []) pc
theorem ve_f_ok {mi pc : Nat} {i : Instr} {len : Nat} (h : ve_f mi pc = some (i, len)) : decode (ve_cc mi) pc = .ok (i, len) := by
  have h1 := ve_lk_mem _ _ _ h
  have h2 := ve_e_ok mi
  unfold ve_dok at h2
  rcases ve_getD_mem (ve_e mi).2.2.2.2.2.2.2 (pc / 32) [] with h3 | h3
  · have h4 := List.all_eq_true.mp (List.all_eq_true.mp h2 _ h3) _ h1
    exact of_decide_eq_true h4
  · rw [h3] at h1
    cases h1
/-- what each method of the table has in the tables' words -/
def ve_word (r : ve_E) : Cond := match r.2.2.2.2.2.2.1 with
  | [] => .code r.1 r.2.1 r.2.2.1 r.2.2.2.1
  | hh => .codeWith r.1 r.2.1 r.2.2.1 r.2.2.2.1 hh

theorem ve_w0 : ve_word ve_e0 ∈ tables_1 := List.mem_of_getElem? (i := 23) (by decide +kernel)
theorem ve_w1 : ve_word ve_e1 ∈ tables_1 := List.mem_of_getElem? (i := 408) (by decide +kernel)
theorem ve_w2 : ve_word ve_e2 ∈ tables_1 := List.mem_of_getElem? (i := 450) (by decide +kernel)
theorem ve_w3 : ve_word ve_e3 ∈ tables_1 := List.mem_of_getElem? (i := 778) (by decide +kernel)
theorem ve_w4 : ve_word ve_e4 ∈ tables_1 := List.mem_of_getElem? (i := 416) (by decide +kernel)
theorem ve_w5 : ve_word ve_e5 ∈ tables_1 := List.mem_of_getElem? (i := 817) (by decide +kernel)
theorem ve_w6 : ve_word ve_e6 ∈ tables_1 := List.mem_of_getElem? (i := 944) (by decide +kernel)
theorem ve_w7 : ve_word ve_e7 ∈ tables_1 := List.mem_of_getElem? (i := 960) (by decide +kernel)
theorem ve_w8 : ve_word ve_e8 ∈ tables_1 := List.mem_of_getElem? (i := 420) (by decide +kernel)
theorem ve_w9 : ve_word ve_e9 ∈ tables_1 := List.mem_of_getElem? (i := 424) (by decide +kernel)
theorem ve_w10 : ve_word ve_e10 ∈ tables_1 := List.mem_of_getElem? (i := 990) (by decide +kernel)
theorem ve_w11 : ve_word ve_e11 ∈ tables_1 := List.mem_of_getElem? (i := 1001) (by decide +kernel)
theorem ve_w12 : ve_word ve_e12 ∈ tables_1 := List.mem_of_getElem? (i := 703) (by decide +kernel)
theorem ve_w13 : ve_word ve_e13 ∈ tables_1 := List.mem_of_getElem? (i := 436) (by decide +kernel)
theorem ve_w14 : ve_word ve_e14 ∈ tables_1 := List.mem_of_getElem? (i := 982) (by decide +kernel)
theorem ve_w15 : ve_word ve_e15 ∈ tables_1 := List.mem_of_getElem? (i := 439) (by decide +kernel)
theorem ve_w16 : ve_word ve_e16 ∈ tables_1 := List.mem_of_getElem? (i := 442) (by decide +kernel)
theorem ve_w17 : ve_word ve_e17 ∈ tables_1 := List.mem_of_getElem? (i := 647) (by decide +kernel)
theorem ve_w18 : ve_word ve_e18 ∈ tables_1 := List.mem_of_getElem? (i := 1006) (by decide +kernel)
theorem ve_w19 : ve_word ve_e19 ∈ tables_1 := List.mem_of_getElem? (i := 1249) (by decide +kernel)
theorem ve_w20 : ve_word ve_e20 ∈ tables_1 := List.mem_of_getElem? (i := 1415) (by decide +kernel)
theorem ve_w21 : ve_word ve_e21 ∈ tables_1 := List.mem_of_getElem? (i := 1253) (by decide +kernel)
theorem ve_w22 : ve_word ve_e22 ∈ tables_1 := List.mem_of_getElem? (i := 1277) (by decide +kernel)
theorem ve_w23 : ve_word ve_e23 ∈ tables_1 := List.mem_of_getElem? (i := 1273) (by decide +kernel)
theorem ve_w24 : ve_word ve_e24 ∈ tables_1 := List.mem_of_getElem? (i := 1286) (by decide +kernel)
theorem ve_w25 : ve_word ve_e25 ∈ tables_1 := List.mem_of_getElem? (i := 1295) (by decide +kernel)
theorem ve_w26 : ve_word ve_e26 ∈ tables_1 := List.mem_of_getElem? (i := 1298) (by decide +kernel)
theorem ve_w27 : ve_word ve_e27 ∈ tables_1 := List.mem_of_getElem? (i := 1283) (by decide +kernel)
theorem ve_w28 : ve_word ve_e28 ∈ tables_1 := List.mem_of_getElem? (i := 1292) (by decide +kernel)
theorem ve_w29 : ve_word ve_e29 ∈ tables_1 := List.mem_of_getElem? (i := 1289) (by decide +kernel)
theorem ve_w30 : ve_word ve_e30 ∈ tables_1 := List.mem_of_getElem? (i := 1266) (by decide +kernel)
theorem ve_w31 : ve_word ve_e31 ∈ tables_1 := List.mem_of_getElem? (i := 1270) (by decide +kernel)
theorem ve_w32 : ve_word ve_e32 ∈ tables_1 := List.mem_of_getElem? (i := 1322) (by decide +kernel)
theorem ve_w33 : ve_word ve_e33 ∈ tables_1 := List.mem_of_getElem? (i := 1318) (by decide +kernel)
theorem ve_w34 : ve_word ve_e34 ∈ tables_1 := List.mem_of_getElem? (i := 1334) (by decide +kernel)
theorem ve_w35 : ve_word ve_e35 ∈ tables_1 := List.mem_of_getElem? (i := 1330) (by decide +kernel)
theorem ve_w36 : ve_word ve_e36 ∈ tables_1 := List.mem_of_getElem? (i := 1326) (by decide +kernel)
theorem ve_w37 : ve_word ve_e37 ∈ tables_1 := List.mem_of_getElem? (i := 1351) (by decide +kernel)
theorem ve_w38 : ve_word ve_e38 ∈ tables_1 := List.mem_of_getElem? (i := 1338) (by decide +kernel)
theorem ve_w39 : ve_word ve_e39 ∈ tables_1 := List.mem_of_getElem? (i := 1342) (by decide +kernel)
theorem ve_w40 : ve_word ve_e40 ∈ tables_1 := List.mem_of_getElem? (i := 1347) (by decide +kernel)
theorem ve_w41 : ve_word ve_e41 ∈ tables_1 := List.mem_of_getElem? (i := 1314) (by decide +kernel)
theorem ve_w42 : ve_word ve_e42 ∈ tables_1 := List.mem_of_getElem? (i := 1310) (by decide +kernel)
theorem ve_w43 : ve_word ve_e43 ∈ tables_1 := List.mem_of_getElem? (i := 1379) (by decide +kernel)
theorem ve_w44 : ve_word ve_e44 ∈ tables_1 := List.mem_of_getElem? (i := 1375) (by decide +kernel)
