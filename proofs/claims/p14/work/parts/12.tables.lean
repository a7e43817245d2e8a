/-! THE TABLES OF THE RECKONER: methods, fields, calls, classes, constants; by program (wip/whole/gen_tables.py) out of the Statement's words -/
def rMs0 : List rMeth := [(0, ⟨"GoalsInAQueue$Draws", "<init>", "()V"⟩, prog_2_method_1_code, 1, none, 1, false),
  (0, ⟨"GoalsInAQueue$Draws", "drawTerm", "(LGoalsInAQueue$Script;)I"⟩, prog_2_method_3_code, 4, (some .int), 2, false),
  (0, ⟨"GoalsInAQueue$Draws", "below", "(I)I"⟩, prog_2_method_2_code, 2, (some .int), 2, false),
  (0, ⟨"GoalsInAQueue$Draws", "drawHalf", "()I"⟩, prog_2_method_4_code, 1, (some .int), 1, false),
  (1, ⟨"GoalsInAQueue$Reader", "<init>", "(LGoalsInAQueue$Script;)V"⟩, prog_3_method_1_code, 2, none, 2, false),
  (1, ⟨"GoalsInAQueue$Reader", "read", "(LGoalsInAQueue$Row;)I"⟩, prog_3_method_2_code, 4, (some .int), 2, false),
  (1, ⟨"GoalsInAQueue$Reader", "begin", "()V"⟩, prog_3_method_3_code, 1, none, 1, false),
  (1, ⟨"GoalsInAQueue$Reader", "push", "(III)V"⟩, prog_3_method_4_code, 4, none, 4, false),
  (1, ⟨"GoalsInAQueue$Reader", "takes", "(II)Z"⟩, prog_3_method_5_code, 5, (some .boolean), 3, false),
  (1, ⟨"GoalsInAQueue$Reader", "takesGoal", "(IIII)Z"⟩, prog_3_method_6_code, 9, (some .boolean), 5, false),
  (1, ⟨"GoalsInAQueue$Reader", "partsOf", "(I)I"⟩, prog_3_method_8_code, 1, (some .int), 1, true),
  (1, ⟨"GoalsInAQueue$Reader", "takesTerm", "(IIII)Z"⟩, prog_3_method_7_code, 6, (some .boolean), 5, false),
  (1, ⟨"GoalsInAQueue$Reader", "termOf", "(I)I"⟩, prog_3_method_9_code, 1, (some .int), 1, true),
  (2, ⟨"GoalsInAQueue$Row", "<init>", "(I)V"⟩, prog_4_method_1_code, 2, none, 2, false),
  (2, ⟨"GoalsInAQueue$Row", "isFull", "()Z"⟩, prog_4_method_2_code, 1, (some .boolean), 1, false),
  (2, ⟨"GoalsInAQueue$Row", "add", "(I)I"⟩, prog_4_method_3_code, 2, (some .int), 2, false),
  (2, ⟨"GoalsInAQueue$Row", "size", "()I"⟩, prog_4_method_5_code, 1, (some .int), 1, false),
  (2, ⟨"GoalsInAQueue$Row", "at", "(I)I"⟩, prog_4_method_4_code, 2, (some .int), 2, false),
  (2, ⟨"GoalsInAQueue$Row", "empty", "()V"⟩, prog_4_method_6_code, 1, none, 1, false),
  (3, ⟨"GoalsInAQueue$Script", "<init>", "()V"⟩, prog_5_method_1_code, 1, none, 1, false),
  (3, ⟨"GoalsInAQueue$Script", "wipe", "()V"⟩, prog_5_method_2_code, 1, none, 1, false),
  (3, ⟨"GoalsInAQueue$Script", "addGoal", "(I)I"⟩, prog_5_method_7_code, 2, (some .int), 2, false),
  (3, ⟨"GoalsInAQueue$Script", "setPart", "(III)V"⟩, prog_5_method_9_code, 4, none, 4, false),
  (3, ⟨"GoalsInAQueue$Script", "addPair", "(II)I"⟩, prog_5_method_8_code, 3, (some .int), 3, false)]
def rMs1 : List rMeth := [(3, ⟨"GoalsInAQueue$Script", "setHalf", "(III)V"⟩, prog_5_method_10_code, 5, none, 4, false),
  (3, ⟨"GoalsInAQueue$Script", "seal", "(II)V"⟩, prog_5_method_3_code, 3, none, 3, false),
  (3, ⟨"GoalsInAQueue$Script", "retell", "(LGoalsInAQueue$Script;)V"⟩, prog_5_method_4_code, 2, none, 2, false),
  (3, ⟨"GoalsInAQueue$Script", "copyUpTo", "(LGoalsInAQueue$Script;II)V"⟩, prog_5_method_6_code, 4, none, 4, false),
  (3, ⟨"GoalsInAQueue$Script", "partOf", "(II)I"⟩, prog_5_method_12_code, 3, (some .int), 3, false),
  (3, ⟨"GoalsInAQueue$Script", "kindOf", "(I)I"⟩, prog_5_method_11_code, 2, (some .int), 2, false),
  (3, ⟨"GoalsInAQueue$Script", "halfOf", "(II)I"⟩, prog_5_method_13_code, 5, (some .int), 3, false),
  (3, ⟨"GoalsInAQueue$Script", "copy", "(LGoalsInAQueue$Script;)V"⟩, prog_5_method_5_code, 2, none, 2, false),
  (4, ⟨"GoalsInAQueue$Search", "<init>", "(LGoalsInAQueue$Unifier;)V"⟩, prog_6_method_1_code, 3, none, 2, false),
  (4, ⟨"GoalsInAQueue$Search", "begin", "()V"⟩, prog_6_method_2_code, 1, none, 1, false),
  (4, ⟨"GoalsInAQueue$Search", "enqueue", "(LGoalsInAQueue$State;)V"⟩, prog_6_method_18_code, 2, none, 2, false),
  (4, ⟨"GoalsInAQueue$Search", "waitingAt", "(I)LGoalsInAQueue$State;"⟩, prog_6_method_8_code, 4, (some (.object "GoalsInAQueue$State")), 2, false),
  (4, ⟨"GoalsInAQueue$Search", "run", "(II)V"⟩, prog_6_method_9_code, 4, none, 3, false),
  (4, ⟨"GoalsInAQueue$Search", "isDone", "()Z"⟩, prog_6_method_4_code, 1, (some .boolean), 1, false),
  (4, ⟨"GoalsInAQueue$Search", "first", "()LGoalsInAQueue$State;"⟩, prog_6_method_7_code, 1, (some (.object "GoalsInAQueue$State")), 1, false),
  (4, ⟨"GoalsInAQueue$Search", "addAnswer", "()V"⟩, prog_6_method_10_code, 1, none, 1, false),
  (4, ⟨"GoalsInAQueue$Search", "answerAt", "(I)LGoalsInAQueue$State;"⟩, prog_6_method_5_code, 3, (some (.object "GoalsInAQueue$State")), 2, false),
  (4, ⟨"GoalsInAQueue$Search", "perform", "(I)V"⟩, prog_6_method_11_code, 4, none, 2, false),
  (4, ⟨"GoalsInAQueue$Search", "settle", "(LGoalsInAQueue$State;)V"⟩, prog_6_method_17_code, 5, none, 2, false),
  (4, ⟨"GoalsInAQueue$Search", "appendEnds", "(III)Z"⟩, prog_6_method_12_code, 4, (some .boolean), 4, false),
  (4, ⟨"GoalsInAQueue$Search", "appendGoesOn", "(III)Z"⟩, prog_6_method_13_code, 7, (some .boolean), 4, false),
  (4, ⟨"GoalsInAQueue$Search", "relation", "(IIII)I"⟩, prog_6_method_16_code, 6, (some .int), 5, false),
  (4, ⟨"GoalsInAQueue$Search", "memberIsFirst", "(II)Z"⟩, prog_6_method_14_code, 4, (some .boolean), 3, false),
  (4, ⟨"GoalsInAQueue$Search", "memberIsBehind", "(II)Z"⟩, prog_6_method_15_code, 5, (some .boolean), 3, false)]
def rMs2 : List rMeth := [(4, ⟨"GoalsInAQueue$Search", "stepOf", "(I)I"⟩, prog_6_method_6_code, 2, (some .int), 2, false),
  (4, ⟨"GoalsInAQueue$Search", "copy", "(LGoalsInAQueue$Search;)V"⟩, prog_6_method_3_code, 3, none, 2, false),
  (5, ⟨"GoalsInAQueue$State", "<init>", "()V"⟩, prog_7_method_1_code, 1, none, 1, false),
  (5, ⟨"GoalsInAQueue$State", "reset", "()V"⟩, prog_7_method_2_code, 1, none, 1, false),
  (5, ⟨"GoalsInAQueue$State", "push", "(I)V"⟩, prog_7_method_5_code, 2, none, 2, false),
  (5, ⟨"GoalsInAQueue$State", "copy", "(LGoalsInAQueue$State;)V"⟩, prog_7_method_3_code, 2, none, 2, false),
  (5, ⟨"GoalsInAQueue$State", "pop", "()I"⟩, prog_7_method_6_code, 1, (some .int), 1, false),
  (5, ⟨"GoalsInAQueue$State", "keep", "(I)V"⟩, prog_7_method_7_code, 2, none, 2, false),
  (5, ⟨"GoalsInAQueue$State", "fresh", "()I"⟩, prog_7_method_4_code, 1, (some .int), 1, false),
  (6, ⟨"GoalsInAQueue$Teller", "<init>", "()V"⟩, prog_8_method_1_code, 1, none, 1, false),
  (6, ⟨"GoalsInAQueue$Teller", "tell", "(LGoalsInAQueue$Script;LGoalsInAQueue$State;I)V"⟩, prog_8_method_3_code, 6, none, 4, false),
  (6, ⟨"GoalsInAQueue$Teller", "push", "(I)V"⟩, prog_8_method_7_code, 2, none, 2, false),
  (6, ⟨"GoalsInAQueue$Teller", "put", "(I)V"⟩, prog_8_method_6_code, 2, none, 2, false),
  (6, ⟨"GoalsInAQueue$Teller", "tellTerm", "(LGoalsInAQueue$Script;I)V"⟩, prog_8_method_4_code, 3, none, 3, false),
  (6, ⟨"GoalsInAQueue$Teller", "nameOf", "(I)I"⟩, prog_8_method_5_code, 2, (some .int), 2, false),
  (6, ⟨"GoalsInAQueue$Teller", "signAt", "(I)I"⟩, prog_8_method_2_code, 2, (some .int), 2, false),
  (7, ⟨"GoalsInAQueue$Unifier", "<init>", "()V"⟩, prog_9_method_1_code, 1, none, 1, false),
  (7, ⟨"GoalsInAQueue$Unifier", "unify", "(LGoalsInAQueue$Script;[III)Z"⟩, prog_9_method_2_code, 9, (some .boolean), 5, false),
  (7, ⟨"GoalsInAQueue$Unifier", "push", "(II)Z"⟩, prog_9_method_4_code, 3, (some .boolean), 3, false),
  (7, ⟨"GoalsInAQueue$Unifier", "isIn", "(LGoalsInAQueue$Script;[III)Z"⟩, prog_9_method_6_code, 8, (some .boolean), 5, false),
  (7, ⟨"GoalsInAQueue$Unifier", "binds", "([III)Z"⟩, prog_9_method_5_code, 4, (some .boolean), 4, false),
  (7, ⟨"GoalsInAQueue$Unifier", "undo", "([I)V"⟩, prog_9_method_3_code, 4, none, 2, false),
  (8, ⟨"GoalsInAQueue", "<init>", "()V"⟩, prog_1_method_1_code, 1, none, 1, false),
  (8, ⟨"GoalsInAQueue", "letter", "(I)I"⟩, prog_1_method_2_code, 2, (some .int), 2, false)]
def rMs3 : List rMeth := [(8, ⟨"GoalsInAQueue", "refuse", "(I)I"⟩, prog_1_method_28_code, 3, (some .int), 2, false),
  (8, ⟨"GoalsInAQueue", "goal", "()I"⟩, prog_1_method_3_code, 2, (some .int), 1, false),
  (8, ⟨"GoalsInAQueue", "isPair", "(I)Z"⟩, prog_1_method_32_code, 1, (some .boolean), 1, true),
  (8, ⟨"GoalsInAQueue", "steps", "(I)I"⟩, prog_1_method_4_code, 2, (some .int), 2, false),
  (8, ⟨"GoalsInAQueue", "walk", "([II)I"⟩, prog_1_method_33_code, 4, (some .int), 2, true),
  (8, ⟨"GoalsInAQueue", "isVariable", "(I)Z"⟩, prog_1_method_31_code, 1, (some .boolean), 1, true),
  (8, ⟨"GoalsInAQueue", "asSecond", "(I)I"⟩, prog_1_method_34_code, 1, (some .int), 1, true),
  (8, ⟨"GoalsInAQueue", "answers", "()I"⟩, prog_1_method_5_code, 1, (some .int), 1, false),
  (8, ⟨"GoalsInAQueue", "length", "(II)I"⟩, prog_1_method_6_code, 3, (some .int), 3, false),
  (8, ⟨"GoalsInAQueue", "isAnswer", "(I)Z"⟩, prog_1_method_29_code, 2, (some .boolean), 2, false),
  (8, ⟨"GoalsInAQueue", "isNamed", "(I)Z"⟩, prog_1_method_30_code, 1, (some .boolean), 1, true),
  (8, ⟨"GoalsInAQueue", "text", "(III)I"⟩, prog_1_method_7_code, 4, (some .int), 4, false),
  (8, ⟨"GoalsInAQueue", "when", "(I)I"⟩, prog_1_method_8_code, 2, (some .int), 2, false),
  (8, ⟨"GoalsInAQueue", "kept", "(I)I"⟩, prog_1_method_9_code, 2, (some .int), 2, false),
  (8, ⟨"GoalsInAQueue", "queue", "(I)I"⟩, prog_1_method_10_code, 2, (some .int), 2, false),
  (8, ⟨"GoalsInAQueue", "done", "()I"⟩, prog_1_method_11_code, 1, (some .int), 1, false),
  (8, ⟨"GoalsInAQueue", "different", "(I)I"⟩, prog_1_method_12_code, 4, (some .int), 2, false),
  (8, ⟨"GoalsInAQueue", "tellUpTo", "(II)V"⟩, prog_1_method_39_code, 5, none, 3, false),
  (8, ⟨"GoalsInAQueue", "firstAlike", "(I)I"⟩, prog_1_method_40_code, 3, (some .int), 2, false),
  (8, ⟨"GoalsInAQueue", "isAlike", "(II)Z"⟩, prog_1_method_41_code, 4, (some .boolean), 3, false),
  (8, ⟨"GoalsInAQueue", "earliest", "(II)I"⟩, prog_1_method_13_code, 3, (some .int), 3, false),
  (8, ⟨"GoalsInAQueue", "meet", "(II)I"⟩, prog_1_method_14_code, 4, (some .int), 3, false),
  (8, ⟨"GoalsInAQueue", "takeBoth", "(LGoalsInAQueue$State;LGoalsInAQueue$State;)V"⟩, prog_1_method_36_code, 4, none, 3, false),
  (8, ⟨"GoalsInAQueue", "need", "(I)I"⟩, prog_1_method_15_code, 2, (some .int), 2, false)]
def rMs4 : List rMeth := [(8, ⟨"GoalsInAQueue", "left", "(II)I"⟩, prog_1_method_16_code, 3, (some .int), 3, false),
  (8, ⟨"GoalsInAQueue", "beginWith", "(II)V"⟩, prog_1_method_37_code, 6, none, 3, false),
  (8, ⟨"GoalsInAQueue", "least", "(I)I"⟩, prog_1_method_17_code, 3, (some .int), 2, false),
  (8, ⟨"GoalsInAQueue", "turned", "(I)I"⟩, prog_1_method_18_code, 5, (some .int), 2, false),
  (8, ⟨"GoalsInAQueue", "share", "(I)J"⟩, prog_1_method_19_code, 4, (some .long), 2, false),
  (8, ⟨"GoalsInAQueue", "greatestDivisor", "(II)I"⟩, prog_1_method_35_code, 6, (some .int), 2, true),
  (8, ⟨"GoalsInAQueue", "which", "(I)I"⟩, prog_1_method_20_code, 4, (some .int), 2, false),
  (8, ⟨"GoalsInAQueue", "toldAlike", "()I"⟩, prog_1_method_38_code, 3, (some .int), 1, false),
  (8, ⟨"GoalsInAQueue", "row", "(I)I"⟩, prog_1_method_21_code, 2, (some .int), 2, false),
  (8, ⟨"GoalsInAQueue", "judge", "(I)I"⟩, prog_1_method_22_code, 4, (some .int), 2, false),
  (8, ⟨"GoalsInAQueue", "clear", "()I"⟩, prog_1_method_23_code, 2, (some .int), 1, false),
  (8, ⟨"GoalsInAQueue", "lots", "(III)I"⟩, prog_1_method_24_code, 7, (some .int), 4, false),
  (8, ⟨"GoalsInAQueue", "lotHolds", "(LGoalsInAQueue$Script;LGoalsInAQueue$State;)Z"⟩, prog_1_method_42_code, 7, (some .boolean), 3, false),
  (8, ⟨"GoalsInAQueue", "namedTerms", "(LGoalsInAQueue$State;)I"⟩, prog_1_method_43_code, 3, (some .int), 1, true),
  (8, ⟨"GoalsInAQueue", "image", "()I"⟩, prog_1_method_25_code, 1, (some .int), 1, false),
  (8, ⟨"GoalsInAQueue", "on", "()I"⟩, prog_1_method_26_code, 1, (some .int), 1, false),
  (8, ⟨"GoalsInAQueue", "count", "(I)I"⟩, prog_1_method_27_code, 2, (some .int), 2, false),
  (9, ⟨"GoalsInAQueueModel", "<init>", "()V"⟩, prog_11_method_1_code, 1, none, 1, false),
  (9, ⟨"GoalsInAQueueModel", "builds", "()V"⟩, prog_11_method_45_code, 2, none, 1, false),
  (9, ⟨"GoalsInAQueueModel", "buildsSign", "(I)V"⟩, prog_11_method_44_code, 5, none, 2, false),
  (9, ⟨"GoalsInAQueueModel", "pops", "()I"⟩, prog_11_method_43_code, 1, (some .int), 1, false),
  (9, ⟨"GoalsInAQueueModel", "pair", "(II)I"⟩, prog_11_method_6_code, 3, (some .int), 3, false),
  (9, ⟨"GoalsInAQueueModel", "piles", "(I)V"⟩, prog_11_method_14_code, 2, none, 2, false),
  (9, ⟨"GoalsInAQueueModel", "isIn", "(III)Z"⟩, prog_11_method_4_code, 3, (some .boolean), 3, true)]
def rMs5 : List rMeth := [(9, ⟨"GoalsInAQueueModel", "goalOf", "(IIII)I"⟩, prog_11_method_7_code, 5, (some .int), 5, false),
  (9, ⟨"GoalsInAQueueModel", "begins", "(I)V"⟩, prog_11_method_24_code, 2, none, 2, false),
  (9, ⟨"GoalsInAQueueModel", "empties", "()V"⟩, prog_11_method_20_code, 2, none, 1, false),
  (9, ⟨"GoalsInAQueueModel", "list", "(III)I"⟩, prog_11_method_8_code, 4, (some .int), 4, false),
  (9, ⟨"GoalsInAQueueModel", "waits", "()V"⟩, prog_11_method_23_code, 3, none, 1, false),
  (9, ⟨"GoalsInAQueueModel", "slot", "(I)I"⟩, prog_11_method_21_code, 2, (some .int), 2, false),
  (9, ⟨"GoalsInAQueueModel", "letter", "(I)I"⟩, prog_11_method_37_code, 3, (some .int), 2, false),
  (9, ⟨"GoalsInAQueueModel", "bound", "(III)I"⟩, prog_11_method_5_code, 3, (some .int), 3, true),
  (9, ⟨"GoalsInAQueueModel", "no", "(I)I"⟩, prog_11_method_2_code, 2, (some .int), 2, false),
  (9, ⟨"GoalsInAQueueModel", "goal", "()I"⟩, prog_11_method_46_code, 4, (some .int), 1, false),
  (9, ⟨"GoalsInAQueueModel", "reads", "()Z"⟩, prog_11_method_42_code, 1, (some .boolean), 1, false),
  (9, ⟨"GoalsInAQueueModel", "awaits", "(II)V"⟩, prog_11_method_38_code, 4, none, 3, false),
  (9, ⟨"GoalsInAQueueModel", "readsAwaited", "(II)Z"⟩, prog_11_method_41_code, 3, (some .boolean), 3, false),
  (9, ⟨"GoalsInAQueueModel", "readsTerm", "(I)Z"⟩, prog_11_method_39_code, 2, (some .boolean), 2, false),
  (9, ⟨"GoalsInAQueueModel", "readsGoal", "(I)Z"⟩, prog_11_method_40_code, 2, (some .boolean), 2, false),
  (9, ⟨"GoalsInAQueueModel", "image", "()I"⟩, prog_11_method_49_code, 2, (some .int), 1, false),
  (9, ⟨"GoalsInAQueueModel", "on", "()I"⟩, prog_11_method_50_code, 2, (some .int), 1, false),
  (9, ⟨"GoalsInAQueueModel", "goes", "(I)V"⟩, prog_11_method_48_code, 3, none, 2, false),
  (9, ⟨"GoalsInAQueueModel", "isDone", "()Z"⟩, prog_11_method_25_code, 1, (some .boolean), 1, false),
  (9, ⟨"GoalsInAQueueModel", "goesStep", "()V"⟩, prog_11_method_36_code, 3, none, 1, false),
  (9, ⟨"GoalsInAQueueModel", "loads", "(I)V"⟩, prog_11_method_22_code, 3, none, 2, false),
  (9, ⟨"GoalsInAQueueModel", "comesAnswer", "()V"⟩, prog_11_method_35_code, 3, none, 1, false),
  (9, ⟨"GoalsInAQueueModel", "lengthOf", "(I)I"⟩, prog_11_method_9_code, 4, (some .int), 2, false),
  (9, ⟨"GoalsInAQueueModel", "does", "(II)V"⟩, prog_11_method_34_code, 3, none, 3, false)]
def rMs6 : List rMeth := [(9, ⟨"GoalsInAQueueModel", "areSame", "(II)Z"⟩, prog_11_method_29_code, 3, (some .boolean), 3, false),
  (9, ⟨"GoalsInAQueueModel", "unifies", "(II)Z"⟩, prog_11_method_19_code, 6, (some .boolean), 3, false),
  (9, ⟨"GoalsInAQueueModel", "walk", "(I)I"⟩, prog_11_method_12_code, 3, (some .int), 2, false),
  (9, ⟨"GoalsInAQueueModel", "isOpen", "(I)Z"⟩, prog_11_method_10_code, 1, (some .boolean), 1, true),
  (9, ⟨"GoalsInAQueueModel", "openOf", "(I)I"⟩, prog_11_method_11_code, 1, (some .int), 1, true),
  (9, ⟨"GoalsInAQueueModel", "meets", "(II)Z"⟩, prog_11_method_18_code, 3, (some .boolean), 3, false),
  (9, ⟨"GoalsInAQueueModel", "binds", "(II)Z"⟩, prog_11_method_17_code, 3, (some .boolean), 3, false),
  (9, ⟨"GoalsInAQueueModel", "isWithin", "(II)Z"⟩, prog_11_method_16_code, 6, (some .boolean), 3, false),
  (9, ⟨"GoalsInAQueueModel", "pilesParts", "(I)V"⟩, prog_11_method_15_code, 2, none, 2, false),
  (9, ⟨"GoalsInAQueueModel", "goesOn", "(Z)V"⟩, prog_11_method_30_code, 2, none, 2, false),
  (9, ⟨"GoalsInAQueueModel", "looks", "()Z"⟩, prog_11_method_28_code, 4, (some .boolean), 1, false),
  (9, ⟨"GoalsInAQueueModel", "looksAt", "(I)I"⟩, prog_11_method_26_code, 5, (some .int), 2, false),
  (9, ⟨"GoalsInAQueueModel", "undoes", "(I)V"⟩, prog_11_method_13_code, 2, none, 2, false),
  (9, ⟨"GoalsInAQueueModel", "leavesOut", "()V"⟩, prog_11_method_27_code, 3, none, 1, false),
  (9, ⟨"GoalsInAQueueModel", "doesEither", "(II)V"⟩, prog_11_method_33_code, 4, none, 3, false),
  (9, ⟨"GoalsInAQueueModel", "doesAppend", "(II)V"⟩, prog_11_method_31_code, 7, none, 3, false),
  (9, ⟨"GoalsInAQueueModel", "doesMember", "(II)V"⟩, prog_11_method_32_code, 6, none, 3, false),
  (9, ⟨"GoalsInAQueueModel", "steps", "(I)I"⟩, prog_11_method_51_code, 3, (some .int), 2, false),
  (9, ⟨"GoalsInAQueueModel", "answers", "()I"⟩, prog_11_method_60_code, 1, (some .int), 1, false),
  (9, ⟨"GoalsInAQueueModel", "length", "(II)I"⟩, prog_11_method_61_code, 3, (some .int), 3, false),
  (9, ⟨"GoalsInAQueueModel", "isAnswer", "(I)Z"⟩, prog_11_method_58_code, 2, (some .boolean), 2, false),
  (9, ⟨"GoalsInAQueueModel", "isNamed", "(I)Z"⟩, prog_11_method_59_code, 1, (some .boolean), 1, true),
  (9, ⟨"GoalsInAQueueModel", "findText", "(II)V"⟩, prog_11_method_57_code, 3, none, 3, false),
  (9, ⟨"GoalsInAQueueModel", "loadsAnswer", "(I)V"⟩, prog_11_method_56_code, 4, none, 2, false)]
def rMs7 : List rMeth := [(9, ⟨"GoalsInAQueueModel", "writesText", "(I)V"⟩, prog_11_method_55_code, 3, none, 2, false),
  (9, ⟨"GoalsInAQueueModel", "writes", "(I)V"⟩, prog_11_method_52_code, 2, none, 2, false),
  (9, ⟨"GoalsInAQueueModel", "writesTerm", "(I)V"⟩, prog_11_method_54_code, 4, none, 2, false),
  (9, ⟨"GoalsInAQueueModel", "nameOf", "(I)I"⟩, prog_11_method_53_code, 3, (some .int), 2, false),
  (9, ⟨"GoalsInAQueueModel", "text", "(III)I"⟩, prog_11_method_62_code, 5, (some .int), 4, false),
  (9, ⟨"GoalsInAQueueModel", "when", "(I)I"⟩, prog_11_method_63_code, 2, (some .int), 2, false),
  (9, ⟨"GoalsInAQueueModel", "kept", "(I)I"⟩, prog_11_method_64_code, 2, (some .int), 2, false),
  (9, ⟨"GoalsInAQueueModel", "queue", "(I)I"⟩, prog_11_method_65_code, 3, (some .int), 2, false),
  (9, ⟨"GoalsInAQueueModel", "done", "()I"⟩, prog_11_method_66_code, 1, (some .int), 1, false),
  (9, ⟨"GoalsInAQueueModel", "different", "(I)I"⟩, prog_11_method_69_code, 4, (some .int), 2, false),
  (9, ⟨"GoalsInAQueueModel", "earliestLike", "(II)I"⟩, prog_11_method_68_code, 5, (some .int), 3, false),
  (9, ⟨"GoalsInAQueueModel", "isTextLike", "(III)Z"⟩, prog_11_method_67_code, 6, (some .boolean), 4, false),
  (9, ⟨"GoalsInAQueueModel", "earliest", "(II)I"⟩, prog_11_method_70_code, 3, (some .int), 3, false),
  (9, ⟨"GoalsInAQueueModel", "meet", "(II)I"⟩, prog_11_method_71_code, 5, (some .int), 3, false),
  (9, ⟨"GoalsInAQueueModel", "need", "(I)I"⟩, prog_11_method_75_code, 4, (some .int), 2, false),
  (9, ⟨"GoalsInAQueueModel", "minds", "()V"⟩, prog_11_method_72_code, 1, none, 1, false),
  (9, ⟨"GoalsInAQueueModel", "forgets", "()V"⟩, prog_11_method_74_code, 1, none, 1, false),
  (9, ⟨"GoalsInAQueueModel", "left", "(II)I"⟩, prog_11_method_78_code, 4, (some .int), 3, false),
  (9, ⟨"GoalsInAQueueModel", "leftBy", "(II)I"⟩, prog_11_method_77_code, 3, (some .int), 3, false),
  (9, ⟨"GoalsInAQueueModel", "searchesLeft", "(II)V"⟩, prog_11_method_76_code, 3, none, 3, false),
  (9, ⟨"GoalsInAQueueModel", "searches", "(I)V"⟩, prog_11_method_73_code, 2, none, 2, false),
  (9, ⟨"GoalsInAQueueModel", "least", "(I)I"⟩, prog_11_method_79_code, 3, (some .int), 2, false),
  (9, ⟨"GoalsInAQueueModel", "turned", "(I)I"⟩, prog_11_method_80_code, 3, (some .int), 2, false),
  (9, ⟨"GoalsInAQueueModel", "share", "(I)J"⟩, prog_11_method_82_code, 4, (some .long), 2, false)]
def rMs8 : List rMeth := [(9, ⟨"GoalsInAQueueModel", "lowestOf", "(I)J"⟩, prog_11_method_3_code, 2, (some .long), 2, false),
  (9, ⟨"GoalsInAQueueModel", "divisor", "(JJ)J"⟩, prog_11_method_81_code, 10, (some .long), 2, true),
  (9, ⟨"GoalsInAQueueModel", "which", "(I)I"⟩, prog_11_method_85_code, 4, (some .int), 2, false),
  (9, ⟨"GoalsInAQueueModel", "bringsSo", "(II)Z"⟩, prog_11_method_84_code, 4, (some .boolean), 3, false),
  (9, ⟨"GoalsInAQueueModel", "beginsSo", "()Z"⟩, prog_11_method_83_code, 3, (some .boolean), 1, false),
  (9, ⟨"GoalsInAQueueModel", "row", "(I)I"⟩, prog_11_method_86_code, 3, (some .int), 2, false),
  (9, ⟨"GoalsInAQueueModel", "judge", "(I)I"⟩, prog_11_method_87_code, 4, (some .int), 2, false),
  (9, ⟨"GoalsInAQueueModel", "clear", "()I"⟩, prog_11_method_88_code, 2, (some .int), 1, false),
  (9, ⟨"GoalsInAQueueModel", "lots", "(III)I"⟩, prog_11_method_94_code, 7, (some .int), 4, false),
  (9, ⟨"GoalsInAQueueModel", "holdsByLot", "()Z"⟩, prog_11_method_92_code, 5, (some .boolean), 1, false),
  (9, ⟨"GoalsInAQueueModel", "termByLot", "()I"⟩, prog_11_method_91_code, 3, (some .int), 1, false),
  (9, ⟨"GoalsInAQueueModel", "draw", "(I)I"⟩, prog_11_method_89_code, 2, (some .int), 2, false),
  (9, ⟨"GoalsInAQueueModel", "partByLot", "()I"⟩, prog_11_method_90_code, 1, (some .int), 1, false),
  (9, ⟨"GoalsInAQueueModel", "manyClosed", "()I"⟩, prog_11_method_93_code, 3, (some .int), 1, false),
  (9, ⟨"GoalsInAQueueModel", "count", "(I)I"⟩, prog_11_method_95_code, 2, (some .int), 2, false),
  (9, ⟨"GoalsInAQueueModel", "counts", "()V"⟩, prog_11_method_47_code, 4, none, 1, false),
  (11, ⟨"java/lang/Integer", "bitCount", "(I)I"⟩, prog_12_method_49_code, 1, (some .int), 1, true),
  (13, ⟨"java/util/Arrays", "fill", "([II)V"⟩, prog_15_method_103_code, 4, none, 2, true)]
def rMs : List rMeth := rMs0 ++ (rMs1 ++ (rMs2 ++ (rMs3 ++ (rMs4 ++ (rMs5 ++ (rMs6 ++ (rMs7 ++ (rMs8))))))))
def rMp : List (Nat × Nat × Nat) := [(369, 106, 368), (823, 106, 821), (827, 106, 825), (834, 106, 833), (312, 104, 311), (458, 104, 456), (462, 104, 461), (470, 104, 469), (482, 104, 481), (486, 104, 485), (489, 104, 488), (501, 104, 500), (504, 104, 503), (380, 107, 379), (446, 107, 444), (450, 107, 448), (474, 107, 472), (478, 107, 476), (523, 107, 521), (158, 99, 157), (466, 99, 464), (493, 99, 491), (497, 99, 495), (508, 99, 506), (515, 99, 513), (519, 99, 517), (527, 99, 525), (531, 99, 530), (571, 99, 569), (575, 99, 573), (598, 99, 596), (852, 99, 850), (152, 98, 151), (234, 98, 232), (243, 98, 242), (247, 98, 246), (543, 98, 541), (547, 98, 545), (551, 98, 549), (555, 98, 554), (559, 98, 557), (567, 98, 566), (610, 98, 609), (622, 98, 621), (626, 98, 625), (634, 98, 633), (641, 98, 640), (645, 98, 644), (703, 98, 701), (848, 98, 846), (197, 100, 196), (202, 100, 200), (239, 100, 237), (251, 100, 249), (563, 100, 561), (618, 100, 616), (630, 100, 628), (343, 105, 342), (666, 105, 664), (671, 105, 670), (675, 105, 674), (680, 105, 679), (687, 105, 686), (695, 105, 693), (122, 97, 121), (579, 97, 577), (583, 97, 582), (594, 97, 593), (605, 97, 604), (614, 97, 612), (114, 96, 113), (438, 96, 436), (442, 96, 441), (454, 96, 452), (511, 96, 510), (539, 96, 537), (587, 96, 586), (590, 96, 589), (601, 96, 600), (650, 96, 648), (654, 96, 652), (658, 96, 657), (661, 96, 660), (691, 96, 689), (699, 96, 697), (707, 96, 705), (717, 96, 715), (722, 96, 720), (727, 96, 725), (731, 96, 730), (735, 96, 734), (739, 96, 738), (743, 96, 741), (747, 96, 745), (751, 96, 750), (758, 96, 756), (762, 96, 760), (766, 96, 765), (773, 96, 771), (777, 96, 775), (783, 96, 781), (787, 96, 786), (791, 96, 789), (795, 96, 794), (801, 96, 799), (805, 96, 803), (809, 96, 807), (813, 96, 811), (817, 96, 816), (838, 96, 837), (844, 96, 842), (857, 96, 855), (861, 96, 859), (866, 108, 865), (871, 108, 870), (875, 108, 874), (879, 108, 878), (883, 108, 882), (887, 108, 886), (890, 108, 889), (894, 108, 893), (898, 108, 897), (902, 108, 901), (906, 108, 905), (910, 108, 909), (914, 108, 913), (1099, 108, 1097), (1102, 108, 1101), (1106, 108, 1105), (1110, 108, 1108), (1114, 108, 1113), (1118, 108, 1117), (1122, 108, 1121), (1126, 108, 1125), (1130, 108, 1129), (1134, 108, 1132), (1138, 108, 1136), (1142, 108, 1141), (1146, 108, 1145), (1150, 108, 1149), (1154, 108, 1153), (1158, 108, 1157), (1162, 108, 1161), (1166, 108, 1165), (1170, 108, 1169), (1174, 108, 1173), (1178, 108, 1177), (1181, 108, 1180), (1184, 108, 1183), (1188, 108, 1187), (1192, 108, 1191), (1196, 108, 1195), (1200, 108, 1199), (1204, 108, 1203), (1208, 108, 1207), (1212, 108, 1211), (1216, 108, 1215), (1220, 108, 1219), (1224, 108, 1223), (1228, 108, 1227), (1232, 108, 1231), (1236, 108, 1234), (1240, 108, 1238), (1244, 108, 1242), (1248, 108, 1247), (1251, 108, 1250), (1255, 108, 1254), (1259, 108, 1258), (1263, 108, 1262), (1267, 108, 1266), (1271, 108, 1270), (1275, 108, 1274), (1279, 108, 1277), (1283, 108, 1281), (1287, 108, 1285), (1291, 108, 1289), (1295, 108, 1293), (1299, 108, 1297), (1303, 108, 1302), (1307, 108, 1306), (1311, 108, 1309), (1315, 108, 1313), (1319, 108, 1317), (1323, 108, 1322), (1327, 108, 1326), (1331, 108, 1329), (1335, 108, 1334), (1339, 108, 1338), (1343, 108, 1342), (1347, 108, 1345), (1351, 108, 1349), (1355, 108, 1353), (1359, 108, 1358), (1363, 108, 1362), (1367, 108, 1365), (1371, 108, 1370), (1375, 108, 1374), (1379, 108, 1377), (1383, 108, 1381), (1387, 108, 1385), (1391, 108, 1389), (1395, 108, 1394), (1399, 108, 1398), (1403, 108, 1402), (1410, 108, 1409), (1414, 108, 1413), (1418, 108, 1416), (1422, 108, 1421), (710, 109, 709), (205, 101, 204)]
def rFl : List (List (Nat × rFld × Nat)) := [[(9, (0, 0, 0, false, false), 371)],
  [(9, (1, 0, 2, true, false), 314), (15, (1, 1, 2, true, false), 315), (19, (1, 2, 2, true, false), 316), (22, (1, 3, 2, true, false), 317), (25, (1, 4, 0, false, false), 318), (29, (1, 5, 0, false, false), 319), (32, (1, 6, 0, false, false), 320), (35, (1, 7, 0, false, false), 321)],
  [(15, (2, 0, 2, true, false), 383), (21, (2, 1, 0, false, false), 384)],
  [(9, (3, 0, 2, true, false), 160), (15, (3, 1, 2, true, false), 161), (18, (3, 2, 2, true, false), 162), (21, (3, 3, 0, false, false), 163), (25, (3, 4, 0, false, false), 164), (28, (3, 5, 0, false, false), 165), (31, (3, 6, 0, false, false), 168), (34, (3, 7, 0, false, false), 170), (37, (3, 8, 0, false, false), 171)],
  [(178, (7, 6, 0, false, true), 0), (68, (3, 5, 0, false, true), 1), (129, (5, 0, 2, true, true), 6), (185, (5, 2, 0, false, true), 9), (109, (5, 3, 0, false, true), 10), (175, (5, 4, 0, false, true), 13), (18, (4, 0, 2, true, false), 261), (9, (4, 1, 2, true, false), 263), (24, (4, 2, 2, true, false), 264), (29, (4, 3, 2, true, false), 265), (32, (4, 4, 2, true, false), 266), (36, (4, 5, 2, true, false), 267), (40, (4, 6, 2, true, false), 269), (46, (4, 7, 0, false, false), 270), (50, (4, 8, 0, false, false), 271), (53, (4, 9, 0, false, false), 273), (56, (4, 10, 0, false, false), 275), (59, (4, 11, 0, false, false), 277), (62, (4, 12, 0, false, false), 279)],
  [(9, (5, 0, 2, true, false), 206), (15, (5, 1, 2, true, false), 210), (27, (5, 2, 0, false, false), 211), (31, (5, 3, 0, false, false), 214), (34, (5, 4, 0, false, false), 217)],
  [(44, (5, 0, 2, true, true), 5), (9, (6, 0, 2, true, false), 345), (15, (6, 1, 2, true, false), 346), (18, (6, 2, 2, true, false), 347), (21, (6, 3, 0, false, false), 348), (25, (6, 4, 0, false, false), 350), (28, (6, 5, 0, false, false), 351)],
  [(9, (7, 0, 2, true, false), 124), (15, (7, 1, 2, true, false), 125), (18, (7, 2, 2, true, false), 126), (21, (7, 3, 2, true, false), 127), (24, (7, 4, 0, false, false), 128), (28, (7, 5, 0, false, false), 129), (31, (7, 6, 0, false, false), 130)],
  [(197, (3, 5, 0, false, true), 2), (241, (3, 6, 0, false, true), 3), (244, (3, 8, 0, false, true), 4), (253, (5, 0, 2, true, true), 7), (174, (5, 2, 0, false, true), 8), (171, (5, 3, 0, false, true), 11), (150, (5, 4, 0, false, true), 12), (33, (4, 0, 2, true, true), 14), (225, (4, 5, 2, true, true), 15), (160, (4, 8, 0, false, true), 16), (115, (4, 9, 0, false, true), 17), (123, (4, 10, 0, false, true), 18), (161, (4, 11, 0, false, true), 19), (164, (4, 12, 0, false, true), 20), (141, (6, 3, 0, false, true), 21), (222, (0, 0, 0, false, true), 22), (21, (8, 0, 2, true, false), 392), (25, (8, 1, 2, true, false), 393), (28, (8, 2, 2, true, false), 394), (12, (8, 3, 2, true, false), 395), (40, (8, 4, 2, true, false), 396), (47, (8, 5, 2, true, false), 397), (54, (8, 6, 2, true, false), 398), (63, (8, 7, 2, true, false), 399), (67, (8, 8, 2, true, false), 400), (70, (8, 9, 2, true, false), 401), (74, (8, 10, 2, true, false), 402), (79, (8, 11, 2, true, false), 403), (82, (8, 12, 2, true, false), 404), (85, (8, 13, 1, false, false), 405)],
  [(7, (9, 0, 2, true, false), 915), (13, (9, 1, 2, true, false), 916), (16, (9, 2, 2, true, false), 917), (19, (9, 3, 2, true, false), 918), (22, (9, 4, 2, true, false), 919), (25, (9, 5, 2, true, false), 920), (28, (9, 6, 2, true, false), 921), (31, (9, 7, 2, true, false), 922), (34, (9, 8, 2, true, false), 923), (37, (9, 9, 2, true, false), 924), (121, (9, 10, 0, false, false), 925), (124, (9, 11, 0, false, false), 926), (127, (9, 12, 0, false, false), 927), (40, (9, 13, 2, true, false), 928), (43, (9, 14, 2, true, false), 929), (46, (9, 15, 2, true, false), 930), (138, (9, 16, 0, false, false), 931), (141, (9, 17, 0, false, false), 932), (170, (9, 18, 0, false, false), 933), (173, (9, 19, 0, false, false), 934), (176, (9, 20, 0, false, false), 935), (164, (9, 21, 0, false, false), 936), (49, (9, 22, 2, true, false), 937), (52, (9, 23, 2, true, false), 938), (55, (9, 24, 2, true, false), 939), (58, (9, 25, 2, true, false), 940), (61, (9, 26, 2, true, false), 941), (64, (9, 27, 2, true, false), 942), (67, (9, 28, 2, true, false), 943), (70, (9, 29, 2, true, false), 944), (73, (9, 30, 2, true, false), 945), (76, (9, 31, 2, true, false), 946), (79, (9, 32, 2, true, false), 947), (82, (9, 33, 2, true, false), 948), (85, (9, 34, 2, true, false), 949), (88, (9, 35, 2, true, false), 950), (91, (9, 36, 2, true, false), 951), (94, (9, 37, 2, true, false), 952), (97, (9, 38, 2, true, false), 953), (244, (9, 39, 0, false, false), 954), (112, (9, 40, 0, false, false), 955), (304, (9, 41, 0, false, false), 956), (307, (9, 42, 0, false, false), 957), (260, (9, 43, 0, false, false), 958), (257, (9, 44, 0, false, false), 959), (266, (9, 45, 0, false, false), 960), (254, (9, 46, 0, false, false), 961), (285, (9, 47, 0, false, false), 962), (300, (9, 48, 1, false, false), 963), (100, (9, 49, 2, true, false), 964), (103, (9, 50, 2, true, false), 965), (313, (9, 51, 0, false, false), 966), (316, (9, 52, 0, false, false), 967), (106, (9, 53, 2, true, false), 968), (349, (9, 54, 0, false, false), 969), (352, (9, 55, 0, false, false), 970), (355, (9, 56, 0, false, false), 971), (109, (9, 57, 2, true, false), 972), (381, (9, 58, 0, false, false), 973), (390, (9, 59, 0, false, false), 974)],
  [],
  [],
  [],
  [],
  []]
def rNw : List Cond := [.fieldLinkNest "GoalsInAQueue$Search" 178 "GoalsInAQueue$Unifier" "bounds" "I" "GoalsInAQueue",
  .fieldLinkNest "GoalsInAQueue$Search" 68 "GoalsInAQueue$Script" "top" "I" "GoalsInAQueue",
  .fieldLinkNest "GoalsInAQueue" 197 "GoalsInAQueue$Script" "top" "I" "GoalsInAQueue",
  .fieldLinkNest "GoalsInAQueue" 241 "GoalsInAQueue$Script" "toldGoals" "I" "GoalsInAQueue",
  .fieldLinkNest "GoalsInAQueue" 244 "GoalsInAQueue$Script" "toldTerms" "I" "GoalsInAQueue",
  .fieldLinkNest "GoalsInAQueue$Teller" 44 "GoalsInAQueue$State" "bindings" "[I" "GoalsInAQueue",
  .fieldLinkNest "GoalsInAQueue$Search" 129 "GoalsInAQueue$State" "bindings" "[I" "GoalsInAQueue",
  .fieldLinkNest "GoalsInAQueue" 253 "GoalsInAQueue$State" "bindings" "[I" "GoalsInAQueue",
  .fieldLinkNest "GoalsInAQueue" 174 "GoalsInAQueue$State" "variables" "I" "GoalsInAQueue",
  .fieldLinkNest "GoalsInAQueue$Search" 185 "GoalsInAQueue$State" "variables" "I" "GoalsInAQueue",
  .fieldLinkNest "GoalsInAQueue$Search" 109 "GoalsInAQueue$State" "todos" "I" "GoalsInAQueue",
  .fieldLinkNest "GoalsInAQueue" 171 "GoalsInAQueue$State" "todos" "I" "GoalsInAQueue",
  .fieldLinkNest "GoalsInAQueue" 150 "GoalsInAQueue$State" "kept" "I" "GoalsInAQueue",
  .fieldLinkNest "GoalsInAQueue$Search" 175 "GoalsInAQueue$State" "kept" "I" "GoalsInAQueue",
  .fieldLinkNest "GoalsInAQueue" 33 "GoalsInAQueue$Search" "script" "LGoalsInAQueue$Script;" "GoalsInAQueue",
  .fieldLinkNest "GoalsInAQueue" 225 "GoalsInAQueue$Search" "now" "LGoalsInAQueue$State;" "GoalsInAQueue",
  .fieldLinkNest "GoalsInAQueue" 160 "GoalsInAQueue$Search" "size" "I" "GoalsInAQueue",
  .fieldLinkNest "GoalsInAQueue" 115 "GoalsInAQueue$Search" "step" "I" "GoalsInAQueue",
  .fieldLinkNest "GoalsInAQueue" 123 "GoalsInAQueue$Search" "found" "I" "GoalsInAQueue",
  .fieldLinkNest "GoalsInAQueue" 161 "GoalsInAQueue$Search" "lost" "I" "GoalsInAQueue",
  .fieldLinkNest "GoalsInAQueue" 164 "GoalsInAQueue$Search" "most" "I" "GoalsInAQueue",
  .fieldLinkNest "GoalsInAQueue" 141 "GoalsInAQueue$Teller" "size" "I" "GoalsInAQueue",
  .fieldLinkNest "GoalsInAQueue" 222 "GoalsInAQueue$Draws" "z" "I" "GoalsInAQueue",
  .methodLinkNest "GoalsInAQueue$Reader" 91 ⟨"GoalsInAQueue", "isPair", "(I)Z"⟩ "GoalsInAQueue",
  .methodLinkNest "GoalsInAQueue$Unifier" 39 ⟨"GoalsInAQueue", "walk", "([II)I"⟩ "GoalsInAQueue",
  .methodLinkNest "GoalsInAQueue$Unifier" 43 ⟨"GoalsInAQueue", "isVariable", "(I)Z"⟩ "GoalsInAQueue",
  .methodLinkNest "GoalsInAQueue$Script" 59 ⟨"GoalsInAQueue", "asSecond", "(I)I"⟩ "GoalsInAQueue",
  .methodLinkNest "GoalsInAQueue$Unifier" 55 ⟨"GoalsInAQueue", "isPair", "(I)Z"⟩ "GoalsInAQueue",
  .methodLinkNest "GoalsInAQueue$Teller" 49 ⟨"GoalsInAQueue", "walk", "([II)I"⟩ "GoalsInAQueue",
  .methodLinkNest "GoalsInAQueue$Teller" 57 ⟨"GoalsInAQueue", "isPair", "(I)Z"⟩ "GoalsInAQueue",
  .methodLinkNest "GoalsInAQueue$Teller" 67 ⟨"GoalsInAQueue", "isVariable", "(I)Z"⟩ "GoalsInAQueue"]
def rNwP : List Nat := [131, 166, 167, 169, 172, 207, 208, 209, 212, 213, 215, 216, 218, 219, 262, 268, 272, 274, 276, 278, 280, 349, 372, 509, 585, 588, 599, 606, 676, 681, 683]
def rKl : List (List (Nat × (Nat × Nat) × Nat × Nat)) := [[(3, (0, 0), 370, 0), (18, (2, 2), 824, 826), (22, (2, 3), 831, 32), (26, (2, 23), 835, 507)],
  [(3, (0, 0), 313, 0), (38, (2, 6), 459, 3), (61, (2, 20), 463, 465), (64, (2, 7), 467, 4), (41, (2, 16), 471, 473), (47, (2, 17), 475, 477), (51, (2, 8), 479, 5), (68, (2, 9), 483, 6), (75, (3, 10), 487, 0), (78, (2, 21), 490, 492), (81, (2, 22), 494, 496), (72, (2, 11), 498, 7), (84, (3, 12), 502, 0), (87, (2, 23), 505, 507), (91, (4, 74), 23, 0), (95, (2, 24), 512, 514), (55, (2, 25), 516, 518)],
  [(3, (0, 0), 381, 0), (9, (8, 0), 382, 0)],
  [(3, (0, 0), 159, 0), (40, (2, 27), 528, 8), (44, (8, 0), 532, 0), (50, (9, 0), 533, 0), (53, (5, 0), 534, 0), (59, (4, 78), 26, 0)],
  [(3, (0, 0), 153, 0), (17, (1, 19), 156, 0), (28, (1, 50), 195, 0), (43, (2, 33), 231, 233), (65, (2, 51), 235, 201), (71, (2, 52), 236, 238), (75, (2, 34), 240, 0), (92, (2, 35), 244, 1), (96, (2, 53), 248, 250), (101, (2, 37), 544, 546), (105, (2, 38), 548, 550), (112, (2, 39), 552, 9), (98, (2, 40), 556, 558), (115, (2, 54), 560, 562), (119, (2, 41), 564, 10), (122, (2, 28), 568, 570), (125, (2, 29), 572, 574), (132, (2, 65), 576, 578), (138, (2, 42), 607, 14), (181, (2, 69), 611, 613), (141, (2, 55), 615, 617), (144, (2, 43), 619, 15), (148, (2, 44), 623, 16), (158, (2, 56), 627, 629), (161, (2, 45), 631, 17), (168, (2, 21), 635, 492), (171, (2, 22), 636, 496), (165, (2, 23), 637, 507), (151, (2, 46), 638, 18), (155, (2, 47), 642, 19), (83, (8, 0), 646, 0), (79, (2, 31), 849, 851), (89, (9, 0), 853, 0), (22, (6, 0), 192, 0)],
  [(3, (0, 0), 198, 0), (18, (2, 51), 199, 201), (21, (3, 209), 203, 0), (37, (8, 0), 252, 0), (43, (9, 0), 255, 0), (46, (5, 0), 258, 0)],
  [(3, (0, 0), 344, 0), (31, (3, 209), 667, 0), (37, (2, 59), 668, 21), (41, (2, 60), 672, 22), (49, (4, 76), 28, 0), (53, (2, 61), 677, 23), (57, (4, 74), 29, 0), (61, (2, 30), 682, 597), (67, (4, 77), 30, 0), (70, (2, 62), 684, 24)],
  [(3, (0, 0), 123, 0), (34, (2, 66), 580, 11), (39, (4, 76), 24, 0), (43, (4, 77), 25, 0), (47, (2, 67), 591, 12), (58, (2, 30), 595, 597), (51, (2, 68), 602, 13), (55, (4, 74), 27, 0)],
  [(3, (0, 0), 115, 0), (11, (1, 64), 120, 0), (18, (1, 32), 150, 0), (37, (1, 4), 310, 0), (46, (1, 57), 341, 0), (53, (1, 0), 367, 0), (60, (1, 13), 378, 0), (89, (2, 72), 439, 2), (93, (2, 14), 443, 445), (97, (2, 15), 447, 449), (100, (2, 5), 455, 457), (104, (2, 18), 520, 522), (107, (2, 26), 524, 526), (112, (2, 33), 535, 233), (119, (2, 36), 540, 542), (126, (2, 81), 655, 20), (130, (3, 82), 659, 0), (133, (2, 40), 662, 558), (137, (2, 58), 663, 665), (144, (2, 63), 692, 694), (147, (2, 48), 700, 702), (155, (3, 208), 708, 0), (167, (2, 38), 718, 550), (177, (2, 37), 723, 546), (180, (2, 89), 728, 25), (183, (2, 90), 732, 26), (268, (2, 91), 736, 27), (186, (2, 94), 748, 28), (247, (3, 209), 752, 0), (256, (3, 78), 753, 0), (190, (2, 65), 754, 578), (194, (2, 97), 763, 29), (259, (2, 21), 767, 492), (207, (2, 22), 768, 496), (262, (2, 25), 769, 518), (200, (2, 29), 778, 574), (203, (2, 28), 779, 570), (213, (3, 101), 785, 0), (216, (2, 103), 792, 30), (220, (2, 16), 796, 473), (265, (2, 17), 797, 477), (229, (2, 108), 814, 31), (272, (2, 20), 818, 465), (275, (2, 51), 819, 201), (278, (2, 1), 820, 822), (233, (3, 109), 836, 0), (282, (3, 76), 839, 0), (286, (3, 77), 840, 0), (237, (2, 49), 845, 847), (77, (7, 0), 390, 0)],
  [(1, (0, 0), 867, 0), (116, (2, 114), 868, 33), (282, (2, 115), 872, 34), (278, (2, 116), 876, 35), (219, (2, 117), 880, 36), (144, (2, 118), 884, 37), (250, (3, 119), 888, 0), (215, (2, 120), 891, 38), (288, (2, 121), 895, 39), (167, (2, 122), 899, 40), (182, (2, 123), 903, 41), (186, (2, 124), 907, 42), (179, (2, 125), 911, 43), (242, (3, 127), 1100, 0), (247, (2, 128), 1103, 44), (291, (2, 130), 1111, 45), (263, (2, 131), 1115, 46), (275, (2, 132), 1119, 47), (269, (2, 133), 1123, 48), (272, (2, 134), 1127, 49), (310, (2, 137), 1139, 50), (294, (2, 138), 1143, 51), (297, (2, 139), 1147, 52), (212, (2, 140), 1151, 53), (236, (2, 141), 1155, 54), (233, (2, 142), 1159, 55), (239, (2, 143), 1163, 56), (205, (2, 144), 1167, 57), (189, (2, 145), 1171, 58), (148, (2, 146), 1175, 59), (130, (3, 147), 1179, 0), (134, (3, 148), 1182, 0), (161, (2, 149), 1185, 60), (158, (2, 150), 1189, 61), (154, (2, 151), 1193, 62), (151, (2, 152), 1197, 63), (208, (2, 153), 1201, 64), (201, (2, 154), 1205, 65), (195, (2, 155), 1209, 66), (192, (2, 156), 1213, 67), (198, (2, 157), 1217, 68), (223, (2, 158), 1221, 69), (227, (2, 159), 1225, 70), (230, (2, 160), 1229, 71), (334, (2, 164), 1245, 72), (337, (3, 165), 1249, 0), (340, (2, 166), 1252, 73), (328, (2, 167), 1256, 74), (331, (2, 168), 1260, 75), (319, (2, 169), 1264, 76), (325, (2, 170), 1268, 77), (322, (2, 171), 1272, 78), (346, (2, 178), 1300, 79), (343, (2, 179), 1304, 80), (358, (2, 183), 1320, 81), (361, (2, 184), 1324, 82), (370, (2, 186), 1332, 83), (367, (2, 187), 1336, 84), (364, (2, 188), 1340, 85), (373, (2, 192), 1356, 86), (377, (3, 193), 1361, 0), (387, (2, 195), 1368, 87), (384, (2, 196), 1372, 88), (405, (2, 201), 1392, 89), (402, (2, 202), 1396, 90), (396, (2, 203), 1400, 91), (399, (2, 204), 1407, 92), (408, (2, 205), 1411, 93), (411, (2, 207), 1419, 94)],
  [(9, (1, 70), 112, 0), (13, (2, 71), 435, 437), (18, (2, 73), 451, 453), (23, (2, 75), 536, 538), (27, (2, 79), 647, 649), (31, (2, 80), 651, 653), (36, (2, 83), 688, 690), (41, (2, 84), 696, 698), (45, (2, 85), 704, 706), (49, (2, 86), 714, 716), (53, (2, 87), 719, 721), (57, (2, 88), 724, 726), (61, (2, 92), 740, 742), (65, (2, 93), 744, 746), (69, (2, 95), 755, 757), (73, (2, 96), 759, 761), (77, (2, 98), 770, 772), (81, (2, 99), 774, 776), (85, (2, 100), 780, 782), (90, (2, 102), 788, 790), (94, (2, 104), 798, 800), (98, (2, 105), 802, 804), (102, (2, 106), 806, 808), (106, (2, 107), 810, 812), (110, (2, 110), 841, 843), (114, (2, 111), 854, 856), (118, (2, 112), 858, 860), (12, (1, 113), 864, 0), (17, (2, 126), 1096, 1098), (22, (2, 129), 1107, 1109), (113, (2, 135), 1131, 1133), (117, (2, 136), 1135, 1137), (26, (2, 161), 1233, 1235), (30, (2, 162), 1237, 1239), (35, (2, 163), 1241, 1243), (40, (2, 172), 1276, 1278), (44, (2, 173), 1280, 1282), (48, (2, 174), 1284, 1286), (52, (2, 175), 1288, 1290), (56, (2, 176), 1292, 1294), (60, (2, 177), 1296, 1298), (64, (2, 180), 1308, 1310), (68, (2, 181), 1312, 1314), (72, (2, 182), 1316, 1318), (76, (2, 185), 1328, 1330), (80, (2, 189), 1344, 1346), (84, (2, 190), 1348, 1350), (89, (2, 191), 1352, 1354), (93, (2, 194), 1364, 1366), (97, (2, 197), 1376, 1378), (101, (2, 198), 1380, 1382), (105, (2, 199), 1384, 1386), (109, (2, 200), 1388, 1390), (121, (2, 206), 1415, 1417)],
  [],
  [],
  [],
  []]
def rNl : List (List (Nat × (Nat × List rv) × Nat × Nat × Nat)) := [[],
  [],
  [],
  [],
  [(15, (3, [.inr (.inr none), .inr (.inr none), .inr (.inr none), .inl 0, .inl 0, .inl 0, .inl 0, .inl 0, .inl 0]), 154, 155, 99), (22, (5, [.inr (.inr none), .inr (.inr none), .inl 0, .inl 0, .inl 0]), 192, 194, 100)],
  [],
  [],
  [],
  [(9, (7, [.inr (.inr none), .inr (.inr none), .inr (.inr none), .inr (.inr none), .inl 0, .inl 0, .inl 0]), 118, 119, 97), (16, (4, [.inr (.inr none), .inr (.inr none), .inr (.inr none), .inr (.inr none), .inr (.inr none), .inr (.inr none), .inr (.inr none), .inl 0, .inl 0, .inl 0, .inl 0, .inl 0, .inl 0]), 148, 149, 98), (31, (1, [.inr (.inr none), .inr (.inr none), .inr (.inr none), .inr (.inr none), .inl 0, .inl 0, .inl 0, .inl 0]), 308, 309, 104), (44, (6, [.inr (.inr none), .inr (.inr none), .inr (.inr none), .inl 0, .inl 0, .inl 0]), 339, 340, 105), (51, (0, [.inl 0]), 365, 366, 106), (58, (2, [.inr (.inr none), .inl 0]), 376, 377, 107)],
  [],
  [(7, (8, [.inr (.inr none), .inr (.inr none), .inr (.inr none), .inr (.inr none), .inr (.inr none), .inr (.inr none), .inr (.inr none), .inr (.inr none), .inr (.inr none), .inr (.inr none), .inr (.inr none), .inr (.inr none), .inr (.inr none), .inl 0]), 110, 111, 96), (10, (9, [.inr (.inr none), .inr (.inr none), .inr (.inr none), .inr (.inr none), .inr (.inr none), .inr (.inr none), .inr (.inr none), .inr (.inr none), .inr (.inr none), .inr (.inr none), .inl 0, .inl 0, .inl 0, .inr (.inr none), .inr (.inr none), .inr (.inr none), .inl 0, .inl 0, .inl 0, .inl 0, .inl 0, .inl 0, .inr (.inr none), .inr (.inr none), .inr (.inr none), .inr (.inr none), .inr (.inr none), .inr (.inr none), .inr (.inr none), .inr (.inr none), .inr (.inr none), .inr (.inr none), .inr (.inr none), .inr (.inr none), .inr (.inr none), .inr (.inr none), .inr (.inr none), .inr (.inr none), .inr (.inr none), .inl 0, .inl 0, .inl 0, .inl 0, .inl 0, .inl 0, .inl 0, .inl 0, .inl 0, .inl 0, .inr (.inr none), .inr (.inr none), .inl 0, .inl 0, .inr (.inr none), .inl 0, .inl 0, .inl 0, .inr (.inr none), .inl 0, .inl 0]), 862, 863, 108)],
  [],
  [],
  [],
  []]
def rCs : List (List (Nat × Int32 × Nat)) := [[(15, 1664525, 828), (16, 1013904223, 829), (17, 2147483647, 830)], [], [], [], [], [], [], [(38, 1000000, 584)], [], [(393, 1664525, 1404), (394, 1013904223, 1405), (395, 2147483647, 1406)], [], [(265, 1431655765, 711), (266, 858993459, 712), (267, 252645135, 713)], [], [], []]
def rLs : List (List (Nat × Int64 × Nat)) := [[], [], [], [], [], [], [], [], [(211, 4000000000000000000, 784)], [(119, 4000000000000000000, 1360)], [], [], [], [], []]
def rFind {α : Type} (l : List (List (Nat × α))) (own i : Nat) : Option α := ((l.getD own []).find? (fun e => e.1 == i)).map (fun e => e.2)
def rG : rTab := (fun y => rMs[y]?, fun own i => (rFind rFl own i).map (fun e => e.1), fun own i => (rFind rKl own i).map (fun e => e.1), fun own i => (rFind rNl own i).map (fun e => e.1), fun own i => (rFind rCs own i).map (fun e => e.1), fun own i => (rFind rLs own i).map (fun e => e.1))
-- methods by number
-- 0 GoalsInAQueue$Draws.<init> ()V
-- 1 GoalsInAQueue$Draws.drawTerm (LGoalsInAQueue$Script;)I
-- 2 GoalsInAQueue$Draws.below (I)I
-- 3 GoalsInAQueue$Draws.drawHalf ()I
-- 4 GoalsInAQueue$Reader.<init> (LGoalsInAQueue$Script;)V
-- 5 GoalsInAQueue$Reader.read (LGoalsInAQueue$Row;)I
-- 6 GoalsInAQueue$Reader.begin ()V
-- 7 GoalsInAQueue$Reader.push (III)V
-- 8 GoalsInAQueue$Reader.takes (II)Z
-- 9 GoalsInAQueue$Reader.takesGoal (IIII)Z
-- 10 GoalsInAQueue$Reader.partsOf (I)I
-- 11 GoalsInAQueue$Reader.takesTerm (IIII)Z
-- 12 GoalsInAQueue$Reader.termOf (I)I
-- 13 GoalsInAQueue$Row.<init> (I)V
-- 14 GoalsInAQueue$Row.isFull ()Z
-- 15 GoalsInAQueue$Row.add (I)I
-- 16 GoalsInAQueue$Row.size ()I
-- 17 GoalsInAQueue$Row.at (I)I
-- 18 GoalsInAQueue$Row.empty ()V
-- 19 GoalsInAQueue$Script.<init> ()V
-- 20 GoalsInAQueue$Script.wipe ()V
-- 21 GoalsInAQueue$Script.addGoal (I)I
-- 22 GoalsInAQueue$Script.setPart (III)V
-- 23 GoalsInAQueue$Script.addPair (II)I
-- 24 GoalsInAQueue$Script.setHalf (III)V
-- 25 GoalsInAQueue$Script.seal (II)V
-- 26 GoalsInAQueue$Script.retell (LGoalsInAQueue$Script;)V
-- 27 GoalsInAQueue$Script.copyUpTo (LGoalsInAQueue$Script;II)V
-- 28 GoalsInAQueue$Script.partOf (II)I
-- 29 GoalsInAQueue$Script.kindOf (I)I
-- 30 GoalsInAQueue$Script.halfOf (II)I
-- 31 GoalsInAQueue$Script.copy (LGoalsInAQueue$Script;)V
-- 32 GoalsInAQueue$Search.<init> (LGoalsInAQueue$Unifier;)V
-- 33 GoalsInAQueue$Search.begin ()V
-- 34 GoalsInAQueue$Search.enqueue (LGoalsInAQueue$State;)V
-- 35 GoalsInAQueue$Search.waitingAt (I)LGoalsInAQueue$State;
-- 36 GoalsInAQueue$Search.run (II)V
-- 37 GoalsInAQueue$Search.isDone ()Z
-- 38 GoalsInAQueue$Search.first ()LGoalsInAQueue$State;
-- 39 GoalsInAQueue$Search.addAnswer ()V
-- 40 GoalsInAQueue$Search.answerAt (I)LGoalsInAQueue$State;
-- 41 GoalsInAQueue$Search.perform (I)V
-- 42 GoalsInAQueue$Search.settle (LGoalsInAQueue$State;)V
-- 43 GoalsInAQueue$Search.appendEnds (III)Z
-- 44 GoalsInAQueue$Search.appendGoesOn (III)Z
-- 45 GoalsInAQueue$Search.relation (IIII)I
-- 46 GoalsInAQueue$Search.memberIsFirst (II)Z
-- 47 GoalsInAQueue$Search.memberIsBehind (II)Z
-- 48 GoalsInAQueue$Search.stepOf (I)I
-- 49 GoalsInAQueue$Search.copy (LGoalsInAQueue$Search;)V
-- 50 GoalsInAQueue$State.<init> ()V
-- 51 GoalsInAQueue$State.reset ()V
-- 52 GoalsInAQueue$State.push (I)V
-- 53 GoalsInAQueue$State.copy (LGoalsInAQueue$State;)V
-- 54 GoalsInAQueue$State.pop ()I
-- 55 GoalsInAQueue$State.keep (I)V
-- 56 GoalsInAQueue$State.fresh ()I
-- 57 GoalsInAQueue$Teller.<init> ()V
-- 58 GoalsInAQueue$Teller.tell (LGoalsInAQueue$Script;LGoalsInAQueue$State;I)V
-- 59 GoalsInAQueue$Teller.push (I)V
-- 60 GoalsInAQueue$Teller.put (I)V
-- 61 GoalsInAQueue$Teller.tellTerm (LGoalsInAQueue$Script;I)V
-- 62 GoalsInAQueue$Teller.nameOf (I)I
-- 63 GoalsInAQueue$Teller.signAt (I)I
-- 64 GoalsInAQueue$Unifier.<init> ()V
-- 65 GoalsInAQueue$Unifier.unify (LGoalsInAQueue$Script;[III)Z
-- 66 GoalsInAQueue$Unifier.push (II)Z
-- 67 GoalsInAQueue$Unifier.isIn (LGoalsInAQueue$Script;[III)Z
-- 68 GoalsInAQueue$Unifier.binds ([III)Z
-- 69 GoalsInAQueue$Unifier.undo ([I)V
-- 70 GoalsInAQueue.<init> ()V
-- 71 GoalsInAQueue.letter (I)I
-- 72 GoalsInAQueue.refuse (I)I
-- 73 GoalsInAQueue.goal ()I
-- 74 GoalsInAQueue.isPair (I)Z
-- 75 GoalsInAQueue.steps (I)I
-- 76 GoalsInAQueue.walk ([II)I
-- 77 GoalsInAQueue.isVariable (I)Z
-- 78 GoalsInAQueue.asSecond (I)I
-- 79 GoalsInAQueue.answers ()I
-- 80 GoalsInAQueue.length (II)I
-- 81 GoalsInAQueue.isAnswer (I)Z
-- 82 GoalsInAQueue.isNamed (I)Z
-- 83 GoalsInAQueue.text (III)I
-- 84 GoalsInAQueue.when (I)I
-- 85 GoalsInAQueue.kept (I)I
-- 86 GoalsInAQueue.queue (I)I
-- 87 GoalsInAQueue.done ()I
-- 88 GoalsInAQueue.different (I)I
-- 89 GoalsInAQueue.tellUpTo (II)V
-- 90 GoalsInAQueue.firstAlike (I)I
-- 91 GoalsInAQueue.isAlike (II)Z
-- 92 GoalsInAQueue.earliest (II)I
-- 93 GoalsInAQueue.meet (II)I
-- 94 GoalsInAQueue.takeBoth (LGoalsInAQueue$State;LGoalsInAQueue$State;)V
-- 95 GoalsInAQueue.need (I)I
-- 96 GoalsInAQueue.left (II)I
-- 97 GoalsInAQueue.beginWith (II)V
-- 98 GoalsInAQueue.least (I)I
-- 99 GoalsInAQueue.turned (I)I
-- 100 GoalsInAQueue.share (I)J
-- 101 GoalsInAQueue.greatestDivisor (II)I
-- 102 GoalsInAQueue.which (I)I
-- 103 GoalsInAQueue.toldAlike ()I
-- 104 GoalsInAQueue.row (I)I
-- 105 GoalsInAQueue.judge (I)I
-- 106 GoalsInAQueue.clear ()I
-- 107 GoalsInAQueue.lots (III)I
-- 108 GoalsInAQueue.lotHolds (LGoalsInAQueue$Script;LGoalsInAQueue$State;)Z
-- 109 GoalsInAQueue.namedTerms (LGoalsInAQueue$State;)I
-- 110 GoalsInAQueue.image ()I
-- 111 GoalsInAQueue.on ()I
-- 112 GoalsInAQueue.count (I)I
-- 113 GoalsInAQueueModel.<init> ()V
-- 114 GoalsInAQueueModel.builds ()V
-- 115 GoalsInAQueueModel.buildsSign (I)V
-- 116 GoalsInAQueueModel.pops ()I
-- 117 GoalsInAQueueModel.pair (II)I
-- 118 GoalsInAQueueModel.piles (I)V
-- 119 GoalsInAQueueModel.isIn (III)Z
-- 120 GoalsInAQueueModel.goalOf (IIII)I
-- 121 GoalsInAQueueModel.begins (I)V
-- 122 GoalsInAQueueModel.empties ()V
-- 123 GoalsInAQueueModel.list (III)I
-- 124 GoalsInAQueueModel.waits ()V
-- 125 GoalsInAQueueModel.slot (I)I
-- 126 GoalsInAQueueModel.letter (I)I
-- 127 GoalsInAQueueModel.bound (III)I
-- 128 GoalsInAQueueModel.no (I)I
-- 129 GoalsInAQueueModel.goal ()I
-- 130 GoalsInAQueueModel.reads ()Z
-- 131 GoalsInAQueueModel.awaits (II)V
-- 132 GoalsInAQueueModel.readsAwaited (II)Z
-- 133 GoalsInAQueueModel.readsTerm (I)Z
-- 134 GoalsInAQueueModel.readsGoal (I)Z
-- 135 GoalsInAQueueModel.image ()I
-- 136 GoalsInAQueueModel.on ()I
-- 137 GoalsInAQueueModel.goes (I)V
-- 138 GoalsInAQueueModel.isDone ()Z
-- 139 GoalsInAQueueModel.goesStep ()V
-- 140 GoalsInAQueueModel.loads (I)V
-- 141 GoalsInAQueueModel.comesAnswer ()V
-- 142 GoalsInAQueueModel.lengthOf (I)I
-- 143 GoalsInAQueueModel.does (II)V
-- 144 GoalsInAQueueModel.areSame (II)Z
-- 145 GoalsInAQueueModel.unifies (II)Z
-- 146 GoalsInAQueueModel.walk (I)I
-- 147 GoalsInAQueueModel.isOpen (I)Z
-- 148 GoalsInAQueueModel.openOf (I)I
-- 149 GoalsInAQueueModel.meets (II)Z
-- 150 GoalsInAQueueModel.binds (II)Z
-- 151 GoalsInAQueueModel.isWithin (II)Z
-- 152 GoalsInAQueueModel.pilesParts (I)V
-- 153 GoalsInAQueueModel.goesOn (Z)V
-- 154 GoalsInAQueueModel.looks ()Z
-- 155 GoalsInAQueueModel.looksAt (I)I
-- 156 GoalsInAQueueModel.undoes (I)V
-- 157 GoalsInAQueueModel.leavesOut ()V
-- 158 GoalsInAQueueModel.doesEither (II)V
-- 159 GoalsInAQueueModel.doesAppend (II)V
-- 160 GoalsInAQueueModel.doesMember (II)V
-- 161 GoalsInAQueueModel.steps (I)I
-- 162 GoalsInAQueueModel.answers ()I
-- 163 GoalsInAQueueModel.length (II)I
-- 164 GoalsInAQueueModel.isAnswer (I)Z
-- 165 GoalsInAQueueModel.isNamed (I)Z
-- 166 GoalsInAQueueModel.findText (II)V
-- 167 GoalsInAQueueModel.loadsAnswer (I)V
-- 168 GoalsInAQueueModel.writesText (I)V
-- 169 GoalsInAQueueModel.writes (I)V
-- 170 GoalsInAQueueModel.writesTerm (I)V
-- 171 GoalsInAQueueModel.nameOf (I)I
-- 172 GoalsInAQueueModel.text (III)I
-- 173 GoalsInAQueueModel.when (I)I
-- 174 GoalsInAQueueModel.kept (I)I
-- 175 GoalsInAQueueModel.queue (I)I
-- 176 GoalsInAQueueModel.done ()I
-- 177 GoalsInAQueueModel.different (I)I
-- 178 GoalsInAQueueModel.earliestLike (II)I
-- 179 GoalsInAQueueModel.isTextLike (III)Z
-- 180 GoalsInAQueueModel.earliest (II)I
-- 181 GoalsInAQueueModel.meet (II)I
-- 182 GoalsInAQueueModel.need (I)I
-- 183 GoalsInAQueueModel.minds ()V
-- 184 GoalsInAQueueModel.forgets ()V
-- 185 GoalsInAQueueModel.left (II)I
-- 186 GoalsInAQueueModel.leftBy (II)I
-- 187 GoalsInAQueueModel.searchesLeft (II)V
-- 188 GoalsInAQueueModel.searches (I)V
-- 189 GoalsInAQueueModel.least (I)I
-- 190 GoalsInAQueueModel.turned (I)I
-- 191 GoalsInAQueueModel.share (I)J
-- 192 GoalsInAQueueModel.lowestOf (I)J
-- 193 GoalsInAQueueModel.divisor (JJ)J
-- 194 GoalsInAQueueModel.which (I)I
-- 195 GoalsInAQueueModel.bringsSo (II)Z
-- 196 GoalsInAQueueModel.beginsSo ()Z
-- 197 GoalsInAQueueModel.row (I)I
-- 198 GoalsInAQueueModel.judge (I)I
-- 199 GoalsInAQueueModel.clear ()I
-- 200 GoalsInAQueueModel.lots (III)I
-- 201 GoalsInAQueueModel.holdsByLot ()Z
-- 202 GoalsInAQueueModel.termByLot ()I
-- 203 GoalsInAQueueModel.draw (I)I
-- 204 GoalsInAQueueModel.partByLot ()I
-- 205 GoalsInAQueueModel.manyClosed ()I
-- 206 GoalsInAQueueModel.count (I)I
-- 207 GoalsInAQueueModel.counts ()V
-- 208 java/lang/Integer.bitCount (I)I
-- 209 java/util/Arrays.fill ([II)V
