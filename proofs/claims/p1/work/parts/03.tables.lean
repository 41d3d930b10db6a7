/-! Printed by my own program (wip/whole/gen_tables.py): the program's classes, fields, methods and pool entries, by numbers -/
def ve_nm : Nat → String
  | 1 => "RuleHouse"
  | 2 => "RuleHouse$Tape"
  | 3 => "RuleHouse$Reader"
  | 4 => "RuleHouse$Engine"
  | 5 => "RuleHouse$Program"
  | 6 => "RuleHouse$Rows"
  | 7 => "RuleHouse$Rule"
  | 8 => "RuleHouse$Model"
  | 9 => "RuleHouseModel"
  | 10 => "java/lang/IllegalArgumentException"
  | 11 => "java/lang/IllegalStateException"
  | 12 => "java/util/NoSuchElementException"
  | 13 => "RuleHouseLaw"
  | 14 => "java/util/Arrays"
  | 15 => "java/lang/Math"
  | _ => ""
def ve_fs : Nat → List (String × String × Bool)
  | 1 => [("tape", "LRuleHouse$Tape;", true), ("reader", "LRuleHouse$Reader;", true), ("engine", "LRuleHouse$Engine;", true), ("current", "LRuleHouse$Program;", false), ("nextProgram", "LRuleHouse$Program;", false), ("answers", "LRuleHouse$Rows;", false), ("nextAnswers", "LRuleHouse$Rows;", false), ("answerVariables", "I", false), ("state", "I", false), ("modelsMade", "I", false), ("questionsAnswered", "I", false), ("faultKind", "I", false), ("faultPlace", "I", false)]
  | 2 => [("text", "[B", true), ("kind", "[I", true), ("place", "[I", true), ("content", "[J", true), ("length", "I", false), ("tokens", "I", false)]
  | 3 => [("tape", "LRuleHouse$Tape;", true), ("question", "LRuleHouse$Rule;", true), ("argument", "[J", true), ("row", "[J", true), ("variableName", "[J", true), ("variablePlace", "[I", true), ("home", "LRuleHouse$Program;", false), ("open", "Z", false), ("rule", "LRuleHouse$Rule;", false), ("at", "I", false), ("named", "I", false), ("faultKind", "I", false), ("faultPlace", "I", false)]
  | 4 => [("model", "LRuleHouse$Model;", true), ("value", "[J", true), ("goal", "[J", true), ("sought", "[J", true), ("groups", "LRuleHouse$Rows;", true), ("amount", "[J", true), ("program", "LRuleHouse$Program;", false), ("rule", "LRuleHouse$Rule;", false), ("target", "LRuleHouse$Rows;", false), ("stratum", "I", false), ("turn", "I", false), ("freshStep", "I", false), ("full", "Z", false)]
  | 5 => [("name", "[J", true), ("arity", "[I", true), ("stratum", "[I", true), ("hangs", "[I", true), ("rule", "[LRuleHouse$Rule;", true), ("facts", "LRuleHouse$Rows;", true), ("predicates", "I", false), ("rules", "I", false), ("strata", "I", false)]
  | 6 => [("width", "I", true), ("cell", "[J", true), ("slot", "[I", true), ("order", "[I", true), ("count", "I", false)]
  | 7 => [("head", "I", false), ("headTerm", "[J", true), ("totalKind", "I", false), ("totalAt", "I", false), ("totalPlace", "I", false), ("variables", "I", false), ("literals", "I", false), ("atoms", "I", false), ("kind", "[I", true), ("detail", "[I", true), ("place", "[I", true), ("term", "[J", true), ("step", "[I", true), ("boundBefore", "[I", true), ("known", "[Z", true), ("settled", "I", false)]
  | 8 => [("rows", "LRuleHouse$Rows;", true), ("came", "[I", true), ("next", "[I", true), ("first", "[I", true), ("size", "[I", true)]
  | 9 => [("thrown", "I", false), ("tape", "[I", true), ("taped", "I", false), ("fault", "I", false), ("faultPlace", "I", false), ("tokens", "I", false), ("tokenKind", "[I", true), ("tokenPlace", "[I", true), ("tokenCode", "[I", true), ("tokenValue", "[J", true), ("at", "I", false), ("side", "I", false), ("predicates", "[I", true), ("predicateName", "[J", true), ("predicateSize", "[I", true), ("stratum", "[I", true), ("rules", "[I", true), ("head", "[I", true), ("headKind", "[I", true), ("headValue", "[J", true), ("totalWord", "[I", true), ("totalAt", "[I", true), ("literals", "[I", true), ("variables", "[I", true), ("literal", "[I", true), ("sign", "[I", true), ("termKind", "[I", true), ("termValue", "[J", true), ("facts", "[I", true), ("factOf", "[I", true), ("factValue", "[J", true), ("state", "I", false), ("tuples", "I", false), ("tupleOf", "[I", true), ("tupleRound", "[I", true), ("tupleValue", "[J", true), ("made", "I", false), ("asked", "I", false), ("answers", "I", false), ("answerWide", "I", false), ("kept", "[J", true), ("fresh", "[J", true), ("clause", "I", false), ("variableName", "[J", true), ("variablePlace", "[I", true), ("bound", "[Z", true), ("readKind", "I", false), ("readValue", "J", false), ("readSide", "I", false), ("grows", "Z", false), ("arguments", "I", false), ("argumentKind", "[I", true), ("argumentValue", "[J", true), ("firstFree", "I", false), ("word", "I", false), ("wordAt", "I", false), ("wordPlace", "I", false), ("readPredicate", "I", false), ("atoms", "I", false), ("negated", "[I", true), ("written", "[I", true), ("totalPlace", "[I", true), ("hangs", "[Z", true), ("has", "[Z", true), ("now", "[J", true), ("limit", "I", false), ("making", "I", false), ("round", "I", false), ("over", "Z", false), ("reckoned", "J", false), ("joins", "I", false), ("join", "[I", true), ("keptHas", "[Z", true), ("keptNow", "[J", true), ("given", "[J", true), ("groups", "I", false), ("groupValue", "[J", true), ("groupTotal", "[J", true), ("found", "I", false)]
  | _ => []
def ve_ft : Nat → List FieldType
  | 1 => [(.object "RuleHouse$Tape"), (.object "RuleHouse$Reader"), (.object "RuleHouse$Engine"), (.object "RuleHouse$Program"), (.object "RuleHouse$Program"), (.object "RuleHouse$Rows"), (.object "RuleHouse$Rows"), .int, .int, .int, .int, .int, .int]
  | 2 => [(.array .byte), (.array .int), (.array .int), (.array .long), .int, .int]
  | 3 => [(.object "RuleHouse$Tape"), (.object "RuleHouse$Rule"), (.array .long), (.array .long), (.array .long), (.array .int), (.object "RuleHouse$Program"), .boolean, (.object "RuleHouse$Rule"), .int, .int, .int, .int]
  | 4 => [(.object "RuleHouse$Model"), (.array .long), (.array .long), (.array .long), (.object "RuleHouse$Rows"), (.array .long), (.object "RuleHouse$Program"), (.object "RuleHouse$Rule"), (.object "RuleHouse$Rows"), .int, .int, .int, .boolean]
  | 5 => [(.array .long), (.array .int), (.array .int), (.array .int), (.array (.object "RuleHouse$Rule")), (.object "RuleHouse$Rows"), .int, .int, .int]
  | 6 => [.int, (.array .long), (.array .int), (.array .int), .int]
  | 7 => [.int, (.array .long), .int, .int, .int, .int, .int, .int, (.array .int), (.array .int), (.array .int), (.array .long), (.array .int), (.array .int), (.array .boolean), .int]
  | 8 => [(.object "RuleHouse$Rows"), (.array .int), (.array .int), (.array .int), (.array .int)]
  | 9 => [.int, (.array .int), .int, .int, .int, .int, (.array .int), (.array .int), (.array .int), (.array .long), .int, .int, (.array .int), (.array .long), (.array .int), (.array .int), (.array .int), (.array .int), (.array .int), (.array .long), (.array .int), (.array .int), (.array .int), (.array .int), (.array .int), (.array .int), (.array .int), (.array .long), (.array .int), (.array .int), (.array .long), .int, .int, (.array .int), (.array .int), (.array .long), .int, .int, .int, .int, (.array .long), (.array .long), .int, (.array .long), (.array .int), (.array .boolean), .int, .long, .int, .boolean, .int, (.array .int), (.array .long), .int, .int, .int, .int, .int, .int, (.array .int), (.array .int), (.array .int), (.array .boolean), (.array .boolean), (.array .long), .int, .int, .int, .boolean, .long, .int, (.array .int), (.array .boolean), (.array .long), (.array .long), .int, (.array .long), (.array .long), .int]
  | _ => []
/-- what kind of value a slot holds: 0 an int, 1 a long, 2 a reference, 3 a boolean -/
def ve_tc : Nat → List Nat
  | 1 => [2, 2, 2, 2, 2, 2, 2, 0, 0, 0, 0, 0, 0]
  | 2 => [2, 2, 2, 2, 0, 0]
  | 3 => [2, 2, 2, 2, 2, 2, 2, 3, 2, 0, 0, 0, 0]
  | 4 => [2, 2, 2, 2, 2, 2, 2, 2, 2, 0, 0, 0, 3]
  | 5 => [2, 2, 2, 2, 2, 2, 0, 0, 0]
  | 6 => [0, 2, 2, 2, 0]
  | 7 => [0, 2, 0, 0, 0, 0, 0, 0, 2, 2, 2, 2, 2, 2, 2, 0]
  | 8 => [2, 2, 2, 2, 2]
  | 9 => [0, 2, 0, 0, 0, 0, 2, 2, 2, 2, 0, 0, 2, 2, 2, 2, 2, 2, 2, 2, 2, 2, 2, 2, 2, 2, 2, 2, 2, 2, 2, 0, 0, 2, 2, 2, 0, 0, 0, 0, 2, 2, 0, 2, 2, 2, 0, 1, 0, 3, 0, 2, 2, 0, 0, 0, 0, 0, 0, 2, 2, 2, 2, 2, 2, 0, 0, 0, 3, 1, 0, 2, 2, 2, 2, 0, 2, 2, 0]
  | _ => []
/-- fields by the pool of their user: (index, kind, slot, final) -/
def ve_fo : Nat → List (Nat × Nat × Nat × Bool)
  | 1 => [(12, 1, 0, true), (21, 1, 1, true), (28, 1, 2, true), (35, 1, 3, false), (39, 1, 4, false), (47, 1, 5, false), (51, 1, 6, false), (54, 1, 8, false), (69, 1, 11, false), (75, 5, 7, false), (81, 1, 12, false), (87, 5, 5, true), (90, 3, 3, true), (98, 6, 4, false), (110, 1, 9, false), (117, 4, 0, true), (121, 8, 0, true), (129, 1, 10, false), (132, 3, 1, true), (140, 7, 5, false), (145, 1, 7, false), (159, 5, 6, false), (162, 5, 8, false), (165, 5, 1, true), (169, 5, 2, true), (182, 5, 0, true), (196, 8, 1, true), (199, 6, 3, true), (202, 3, 11, false), (203, 3, 12, false), (204, 8, 4, true)]
  | 2 => [(9, 2, 0, true), (15, 2, 1, true), (19, 2, 2, true), (22, 2, 3, true), (26, 2, 4, false), (30, 2, 5, false)]
  | 3 => [(12, 3, 1, true), (18, 3, 2, true), (22, 3, 3, true), (25, 3, 4, true), (28, 3, 5, true), (32, 3, 0, true), (36, 3, 8, false), (56, 3, 11, false), (100, 3, 6, false), (104, 3, 7, false), (108, 3, 9, false), (111, 3, 12, false), (120, 5, 4, true), (123, 5, 7, false), (129, 3, 10, false), (132, 7, 0, false), (135, 7, 1, true), (147, 5, 5, true), (160, 7, 2, false), (163, 7, 4, false), (166, 7, 5, false), (172, 7, 10, true), (178, 2, 1, true), (183, 7, 7, false), (202, 2, 3, true), (221, 5, 1, true), (224, 7, 3, false), (234, 2, 2, true)]
  | 4 => [(12, 4, 0, true), (18, 4, 1, true), (22, 4, 2, true), (25, 4, 3, true), (33, 4, 4, true), (37, 4, 5, true), (43, 4, 6, false), (47, 4, 12, false), (51, 5, 8, false), (57, 4, 9, false), (63, 8, 0, true), (66, 6, 4, false), (69, 4, 10, false), (72, 5, 7, false), (75, 5, 4, true), (86, 5, 5, true), (89, 6, 1, true), (92, 5, 2, true), (104, 7, 0, false), (109, 4, 7, false), (112, 7, 2, false), (115, 4, 8, false), (118, 7, 6, false), (121, 7, 12, true), (124, 7, 8, true), (127, 7, 9, true), (130, 4, 11, false), (140, 7, 15, false), (150, 7, 13, true), (160, 7, 14, true), (171, 8, 3, true), (174, 8, 4, true), (181, 8, 2, true), (191, 7, 5, false), (194, 7, 1, true), (211, 7, 3, false), (233, 8, 1, true), (236, 7, 11, true)]
  | 5 => [(9, 5, 0, true), (15, 5, 1, true), (19, 5, 2, true), (22, 5, 3, true), (27, 5, 4, true), (36, 5, 5, true), (41, 5, 6, false), (45, 5, 7, false), (51, 7, 0, false), (60, 7, 6, false), (67, 7, 9, true), (70, 7, 2, false), (77, 7, 4, false), (80, 7, 8, true), (83, 7, 10, true), (90, 5, 8, false)]
  | 6 => [(9, 6, 2, true), (15, 6, 3, true), (18, 6, 0, true), (22, 6, 1, true), (26, 6, 4, false)]
  | 7 => [(9, 7, 1, true), (15, 7, 8, true), (19, 7, 9, true), (22, 7, 10, true), (25, 7, 11, true), (28, 7, 12, true), (31, 7, 13, true), (34, 7, 14, true), (38, 7, 0, false), (42, 7, 2, false), (45, 7, 5, false), (48, 7, 6, false), (51, 7, 7, false), (64, 7, 15, false)]
  | 8 => [(14, 8, 0, true), (20, 8, 1, true), (24, 8, 2, true), (27, 8, 3, true), (30, 8, 4, true)]
  | 9 => [(7, 9, 1, true), (13, 9, 6, true), (16, 9, 7, true), (19, 9, 8, true), (22, 9, 9, true), (26, 9, 12, true), (29, 9, 13, true), (32, 9, 14, true), (35, 9, 15, true), (38, 9, 16, true), (41, 9, 17, true), (44, 9, 18, true), (47, 9, 19, true), (50, 9, 20, true), (53, 9, 21, true), (56, 9, 22, true), (59, 9, 23, true), (62, 9, 24, true), (65, 9, 25, true), (68, 9, 26, true), (71, 9, 27, true), (74, 9, 28, true), (77, 9, 29, true), (80, 9, 30, true), (83, 9, 31, false), (87, 9, 33, true), (90, 9, 34, true), (93, 9, 35, true), (96, 9, 40, true), (99, 9, 41, true), (102, 9, 43, true), (105, 9, 44, true), (108, 9, 45, true), (112, 9, 51, true), (115, 9, 52, true), (118, 9, 59, true), (121, 9, 60, true), (124, 9, 61, true), (127, 9, 62, true), (130, 9, 63, true), (133, 9, 64, true), (136, 9, 71, true), (139, 9, 72, true), (142, 9, 73, true), (145, 9, 74, true), (148, 9, 76, true), (151, 9, 77, true), (154, 9, 0, false), (157, 9, 2, false), (172, 9, 5, false), (201, 9, 3, false), (204, 9, 4, false), (207, 9, 10, false), (223, 9, 42, false), (226, 9, 46, false), (229, 9, 47, false), (238, 9, 48, false), (245, 9, 49, false), (253, 9, 50, false), (259, 9, 54, false), (262, 9, 55, false), (265, 9, 56, false), (268, 9, 53, false), (278, 9, 57, false), (281, 9, 58, false), (342, 9, 11, false), (357, 9, 32, false), (379, 9, 69, false), (398, 9, 65, false), (404, 9, 70, false), (422, 9, 68, false), (428, 9, 66, false), (443, 9, 67, false), (453, 9, 75, false), (465, 9, 36, false), (474, 9, 78, false), (477, 9, 39, false), (480, 9, 37, false), (483, 9, 38, false)]
  | _ => []
/-- classes that are made: (index, kind, slots) -/
def ve_no : Nat → List (Nat × Nat × Nat)
  | 1 => [(9, 2, 6), (16, 3, 13), (25, 4, 13), (32, 5, 9), (42, 6, 5), (72, 10, 6), (101, 11, 6), (148, 12, 6)]
  | 3 => [(9, 7, 16)]
  | 4 => [(9, 8, 5), (28, 6, 5)]
  | 5 => [(25, 7, 16), (31, 6, 5)]
  | 8 => [(9, 6, 5)]
  | 13 => [(8, 1, 13), (42, 9, 79)]
  | _ => []
def ve_lo : Nat → List (Nat × Int64)
  | 1 => [(207, 72057594037927936), (209, 144115188075855872), (211, 144115188075855880)]
  | 2 => [(82, 256), (84, 72057594037927936), (86, 10), (88, 72173536680083456), (90, 72166924400620544), (92, 72184542215012352), (94, 72176776720380928), (96, 72177919483707392)]
  | 3 => [(230, 144115188075855872), (232, 288230376151711744)]
  | 4 => [(242, 144115188075855872), (244, 288230376151711744), (265, 144115188075855880), (267, 72057594037927936)]
  | 6 => [(45, (-7046029254386353131))]
  | 7 => [(82, 288230376151711744), (88, 144115188075855872)]
  | 9 => [(160, 255), (190, 10), (192, 48), (236, 72057594037927936), (360, 72057594037927935), (362, 1099511627776)]
  | 13 => [(45, 4294967295)]
  | _ => []
/-- calls: (index, how, number of the method, number of values taken); how: 0 Object's constructor, 1 an exception's, 2 arraycopy, 3 virtual, 4 static, 5 a constructor; 14, 15: of a nest mate -/
def ve_co : Nat → List (Nat × Nat × Nat × Nat)
  | 1 => [(3, 0, 0, 1), (11, 15, 191, 1), (18, 5, 144, 2), (27, 5, 104, 1), (34, 5, 134, 1), (44, 5, 171, 2), (58, 3, 192, 3), (62, 3, 145, 2), (66, 3, 12, 1), (74, 1, 10, 1), (78, 3, 193, 1), (84, 3, 146, 2), (94, 3, 173, 2), (103, 1, 11, 1), (104, 3, 174, 2), (107, 3, 175, 2), (113, 3, 105, 2), (126, 3, 147, 2), (136, 3, 108, 4), (150, 1, 12, 1), (151, 3, 180, 3), (155, 4, 14, 1), (172, 3, 138, 2), (176, 3, 177, 2), (179, 3, 13, 2), (185, 4, 15, 1), (189, 4, 16, 2), (193, 3, 133, 2)]
  | 2 => [(3, 0, 0, 1), (33, 3, 195, 2), (37, 3, 202, 4), (41, 4, 206, 1), (45, 3, 196, 3), (49, 3, 198, 2), (52, 3, 199, 3), (56, 4, 207, 1), (59, 3, 200, 4), (63, 4, 208, 1), (66, 3, 197, 2), (69, 3, 201, 3), (72, 4, 204, 2), (75, 4, 205, 1), (78, 4, 203, 1)]
  | 3 => [(3, 0, 0, 1), (11, 15, 181, 1), (39, 3, 148, 3), (43, 3, 135, 1), (48, 3, 162, 1), (52, 3, 150, 1), (60, 3, 139, 1), (63, 3, 140, 1), (66, 3, 167, 3), (70, 3, 142, 1), (73, 3, 149, 2), (77, 3, 157, 2), (81, 3, 165, 2), (84, 3, 151, 1), (87, 3, 152, 1), (90, 3, 154, 1), (93, 3, 185, 1), (96, 3, 153, 2), (114, 3, 194, 1), (119, 3, 182, 1), (126, 3, 163, 1), (138, 2, 0, 5), (144, 3, 164, 2), (151, 3, 174, 2), (157, 3, 166, 2), (169, 3, 155, 2), (174, 3, 183, 5), (180, 3, 156, 2), (186, 4, 218, 2), (192, 3, 160, 3), (196, 4, 169, 1), (199, 4, 170, 1), (205, 3, 136, 2), (209, 3, 137, 2), (212, 4, 168, 1), (215, 3, 159, 2), (218, 3, 158, 3), (227, 3, 161, 1)]
  | 4 => [(3, 0, 0, 1), (11, 15, 130, 1), (30, 5, 171, 2), (40, 3, 131, 1), (60, 3, 106, 1), (79, 3, 107, 2), (83, 3, 178, 1), (95, 2, 0, 5), (101, 3, 113, 1), (133, 3, 109, 2), (136, 3, 172, 1), (137, 3, 117, 1), (143, 3, 110, 1), (147, 3, 112, 1), (153, 3, 121, 3), (157, 3, 120, 3), (164, 3, 122, 2), (168, 3, 118, 3), (177, 3, 119, 4), (184, 3, 111, 1), (187, 3, 173, 2), (197, 3, 127, 2), (201, 3, 174, 2), (204, 3, 114, 1), (207, 3, 132, 4), (214, 3, 115, 2), (217, 3, 116, 3), (221, 4, 129, 1), (225, 4, 221, 2), (230, 4, 220, 2), (239, 14, 17, 1), (246, 3, 123, 3), (249, 4, 128, 2), (253, 3, 125, 4), (257, 3, 126, 2), (261, 4, 124, 3)]
  | 5 => [(3, 0, 0, 1), (33, 5, 171, 2), (40, 15, 181, 1), (48, 3, 172, 1), (54, 4, 217, 2), (63, 3, 184, 2), (73, 3, 141, 3), (86, 3, 143, 2), (93, 4, 219, 2)]
  | 6 => [(3, 0, 0, 1), (29, 4, 217, 2), (35, 3, 176, 3), (39, 2, 0, 5), (47, 3, 179, 3)]
  | 7 => [(3, 0, 0, 1), (54, 2, 0, 5), (60, 4, 190, 3), (67, 3, 186, 3), (71, 3, 188, 3), (75, 3, 189, 2), (79, 3, 187, 3), (84, 14, 17, 1)]
  | 8 => [(3, 0, 0, 1), (11, 5, 171, 2), (33, 3, 172, 1), (36, 4, 217, 2)]
  | 9 => [(1, 0, 0, 1), (162, 4, 24, 1), (166, 4, 25, 1), (169, 4, 23, 1), (175, 4, 28, 5), (179, 3, 31, 2), (183, 3, 27, 5), (187, 3, 22, 2), (194, 4, 29, 1), (198, 4, 26, 1), (210, 3, 32, 2), (213, 3, 34, 2), (216, 3, 35, 2), (219, 3, 33, 1), (233, 3, 38, 1), (241, 3, 37, 3), (249, 3, 41, 2), (256, 3, 36, 2), (271, 3, 39, 1), (274, 3, 40, 5), (284, 3, 42, 3), (288, 3, 44, 3), (291, 3, 43, 1), (295, 3, 45, 1), (298, 3, 50, 2), (301, 3, 48, 3), (304, 3, 47, 3), (308, 3, 51, 2), (312, 3, 52, 1), (315, 3, 53, 1), (318, 3, 54, 1), (321, 3, 46, 1), (324, 3, 49, 1), (327, 3, 56, 2), (330, 3, 57, 1), (333, 3, 58, 3), (336, 3, 30, 1), (339, 3, 61, 1), (345, 3, 55, 1), (348, 3, 59, 1), (351, 3, 20, 2), (354, 3, 60, 1), (364, 4, 66, 1), (367, 4, 65, 1), (371, 3, 69, 3), (375, 4, 67, 2), (382, 3, 68, 3), (385, 3, 72, 2), (388, 3, 73, 2), (391, 3, 74, 1), (394, 3, 75, 4), (401, 3, 70, 3), (407, 3, 80, 2), (410, 3, 77, 2), (413, 3, 76, 1), (416, 3, 81, 1), (419, 3, 78, 2), (425, 3, 71, 3), (431, 3, 85, 1), (434, 3, 86, 1), (437, 3, 92, 1), (440, 3, 83, 2), (446, 3, 82, 2), (450, 3, 84, 2), (456, 3, 87, 3), (459, 3, 79, 2), (462, 3, 88, 2), (468, 3, 89, 1), (471, 3, 90, 2), (486, 3, 93, 3), (489, 4, 98, 1), (492, 3, 96, 2), (495, 3, 100, 3), (498, 3, 101, 3)]
  | 13 => [(7, 3, 2, 1), (15, 3, 3, 2), (21, 3, 5, 1), (24, 3, 6, 1), (27, 3, 7, 3), (33, 3, 10, 4), (37, 3, 11, 3), (41, 5, 0, 1), (44, 5, 18, 1), (47, 3, 1, 3), (51, 3, 21, 3), (52, 4, 209, 2), (57, 3, 62, 1), (58, 3, 19, 1), (61, 4, 210, 3), (64, 3, 63, 2), (65, 3, 4, 2), (69, 3, 64, 2), (70, 4, 211, 2), (72, 3, 91, 1), (73, 4, 212, 2), (75, 3, 94, 1), (76, 4, 213, 4), (79, 3, 95, 3), (80, 3, 8, 2), (83, 3, 97, 2), (84, 3, 9, 3), (87, 3, 99, 3), (88, 4, 214, 5), (91, 3, 102, 4), (92, 4, 215, 4), (94, 3, 103, 3)]
  | _ => []
