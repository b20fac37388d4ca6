def zNml : List (MethodName) := [⟨"SyntaxRules", "<init>", "()V"⟩,
  ⟨"SyntaxRules", "sign", "(I)I"⟩,
  ⟨"SyntaxRules", "end", "(I)Z"⟩,
  ⟨"SyntaxRules", "source", "()I"⟩,
  ⟨"SyntaxRules", "rule", "()I"⟩,
  ⟨"SyntaxRules", "drop", "(I)I"⟩,
  ⟨"SyntaxRules", "node", "(II)I"⟩,
  ⟨"SyntaxRules", "name", "(II)I"⟩,
  ⟨"SyntaxRules", "comment", "(II)I"⟩,
  ⟨"SyntaxRules", "letter", "(I)I"⟩,
  ⟨"SyntaxRules", "alike", "(II)I"⟩,
  ⟨"SyntaxRules", "twins", "(II)I"⟩,
  ⟨"SyntaxRules", "told", "(II)I"⟩,
  ⟨"SyntaxRules", "ways", "(II)I"⟩,
  ⟨"SyntaxRules", "held", "(IIII)I"⟩,
  ⟨"SyntaxRules", "found", "(II)I"⟩,
  ⟨"SyntaxRules", "rulesOf", "(I)I"⟩,
  ⟨"SyntaxRules", "tests", "(I)I"⟩,
  ⟨"SyntaxRules", "asked", "(I)I"⟩,
  ⟨"SyntaxRules", "edit", "(III)I"⟩,
  ⟨"SyntaxRules", "comes", "(III)I"⟩,
  ⟨"SyntaxRules", "conflicts", "(II)I"⟩,
  ⟨"SyntaxRules", "would", "(II)I"⟩,
  ⟨"SyntaxRules", "apply", "(I)I"⟩,
  ⟨"SyntaxRules", "rounds", "(II)I"⟩,
  ⟨"SyntaxRules", "after", "(III)I"⟩,
  ⟨"SyntaxRules", "undo", "()I"⟩,
  ⟨"SyntaxRules", "keep", "(I)Z"⟩,
  ⟨"SyntaxRules", "again", "(I)Z"⟩,
  ⟨"SyntaxRules", "count", "(I)I"⟩,
  ⟨"SyntaxRules", "isNode", "(I)Z"⟩,
  ⟨"SyntaxRules", "isRule", "(I)Z"⟩,
  ⟨"SyntaxRules", "isWay", "(I)Z"⟩,
  ⟨"SyntaxRules", "isLetter", "(I)Z"⟩,
  ⟨"SyntaxRules", "isDigit", "(I)Z"⟩,
  ⟨"SyntaxRules", "ruleCount", "()I"⟩,
  ⟨"SyntaxRules", "testsOfAll", "()I"⟩,
  ⟨"SyntaxRules", "turn", "()V"⟩,
  ⟨"SyntaxRules", "writtenAlone", "(II)LSyntaxRules$Writer;"⟩,
  ⟨"SyntaxRules", "writeEdit", "(LSyntaxRules$Source;I)V"⟩,
  ⟨"SyntaxRules", "step", "(LSyntaxRules$Source;LSyntaxRules$Source;I)I"⟩,
  ⟨"SyntaxRules", "wasSeen", "(LSyntaxRules$Text;I)Z"⟩,
  ⟨"SyntaxRules", "copyRules", "([LSyntaxRules$Rule;[LSyntaxRules$Rule;)V"⟩,
  ⟨"SyntaxRules$Text", "<init>", "()V"⟩,
  ⟨"SyntaxRules$Text", "at", "(I)I"⟩,
  ⟨"SyntaxRules$Text", "take", "(LSyntaxRules$Text;)V"⟩,
  ⟨"SyntaxRules$Text", "same", "(LSyntaxRules$Text;)Z"⟩,
  ⟨"SyntaxRules$Text", "sameRow", "(ILSyntaxRules$Text;II)Z"⟩,
  ⟨"SyntaxRules$Text", "rowAt", "(IZI)I"⟩,
  ⟨"SyntaxRules$Source", "<init>", "()V"⟩,
  ⟨"SyntaxRules$Source", "read", "(LSyntaxRules$Text;)Z"⟩,
  ⟨"SyntaxRules$Source", "readTerm", "()Z"⟩,
  ⟨"SyntaxRules$Source", "closeTerm", "()V"⟩,
  ⟨"SyntaxRules$Source", "readNode", "(I)Z"⟩,
  ⟨"SyntaxRules$Source", "hasRoom", "(Z)Z"⟩,
  ⟨"SyntaxRules$Source", "addNode", "(I)I"⟩,
  ⟨"SyntaxRules$Source", "readName", "(IZ)Z"⟩,
  ⟨"SyntaxRules$Source", "finishNode", "(I)Z"⟩,
  ⟨"SyntaxRules$Source", "passLayout", "()Z"⟩,
  ⟨"SyntaxRules$Source", "passComment", "()Z"⟩,
  ⟨"SyntaxRules$Source", "addComment", "(I)V"⟩,
  ⟨"SyntaxRules$Source", "sameNode", "(II)Z"⟩,
  ⟨"SyntaxRules$Source", "sameRow", "(III)Z"⟩,
  ⟨"SyntaxRules$Source", "isNamed", "(ILSyntaxRules$Rule;I)Z"⟩,
  ⟨"SyntaxRules$Source", "partOf", "(II)I"⟩,
  ⟨"SyntaxRules$Source", "mostWithin", "()I"⟩,
  ⟨"SyntaxRules$Rule", "<init>", "()V"⟩,
  ⟨"SyntaxRules$Rule", "itemsOf", "(III)I"⟩,
  ⟨"SyntaxRules$Rule", "standing", "(II)I"⟩,
  ⟨"SyntaxRules$Rule", "rowsBehind", "(I)I"⟩,
  ⟨"SyntaxRules$Rule", "singlesBehind", "(I)I"⟩,
  ⟨"SyntaxRules$Rule", "sameWord", "(ILSyntaxRules$Rule;I)Z"⟩,
  ⟨"SyntaxRules$Rule", "sameTokens", "(ILSyntaxRules$Rule;I)Z"⟩,
  ⟨"SyntaxRules$Rule", "samePath", "(ILSyntaxRules$Rule;I)Z"⟩,
  ⟨"SyntaxRules$RuleReader", "<init>", "()V"⟩,
  ⟨"SyntaxRules$RuleReader", "read", "(LSyntaxRules$Text;)LSyntaxRules$Rule;"⟩,
  ⟨"SyntaxRules$RuleReader", "passEquals", "()Z"⟩,
  ⟨"SyntaxRules$RuleReader", "readSide", "()Z"⟩,
  ⟨"SyntaxRules$RuleReader", "passBlanks", "()V"⟩,
  ⟨"SyntaxRules$RuleReader", "isInTerm", "()Z"⟩,
  ⟨"SyntaxRules$RuleReader", "readItem", "(I)Z"⟩,
  ⟨"SyntaxRules$RuleReader", "opOf", "(I)I"⟩,
  ⟨"SyntaxRules$RuleReader", "mayStand", "(I)Z"⟩,
  ⟨"SyntaxRules$RuleReader", "addItem", "(I)I"⟩,
  ⟨"SyntaxRules$RuleReader", "hangItem", "(I)V"⟩,
  ⟨"SyntaxRules$RuleReader", "readWord", "(IZ)Z"⟩,
  ⟨"SyntaxRules$RuleReader", "readHole", "(I)Z"⟩,
  ⟨"SyntaxRules$RuleReader", "mayBear", "(IZ)Z"⟩,
  ⟨"SyntaxRules$RuleReader", "readKind", "(I)Z"⟩,
  ⟨"SyntaxRules$RuleReader", "finishItem", "(I)Z"⟩,
  ⟨"SyntaxRules$Fitting", "<init>", "()V"⟩,
  ⟨"SyntaxRules$Fitting", "fits", "(LSyntaxRules$Source;LSyntaxRules$Rule;I)Z"⟩,
  ⟨"SyntaxRules$Fitting", "fittingRules", "(LSyntaxRules$Source;[LSyntaxRules$Rule;I)I"⟩,
  ⟨"SyntaxRules$Fitting", "firstHeld", "(I)I"⟩,
  ⟨"SyntaxRules$Fitting", "search", "(LSyntaxRules$Source;LSyntaxRules$Rule;III)I"⟩,
  ⟨"SyntaxRules$Fitting", "nextChoice", "()I"⟩,
  ⟨"SyntaxRules$Fitting", "choosesMore", "(I)Z"⟩,
  ⟨"SyntaxRules$Fitting", "reach", "(II)V"⟩,
  ⟨"SyntaxRules$Fitting", "enter", "(II)Z"⟩,
  ⟨"SyntaxRules$Fitting", "hasParts", "(I)Z"⟩,
  ⟨"SyntaxRules$Fitting", "openChoice", "(I)Z"⟩,
  ⟨"SyntaxRules$Fitting", "enterRow", "(I)Z"⟩,
  ⟨"SyntaxRules$Fitting", "takePart", "(I)V"⟩,
  ⟨"SyntaxRules$Fitting", "isAsBefore", "(I)Z"⟩,
  ⟨"SyntaxRules$TestTree", "<init>", "()V"⟩,
  ⟨"SyntaxRules$TestTree", "layRow", "(LSyntaxRules$Rule;)I"⟩,
  ⟨"SyntaxRules$TestTree", "layHole", "(LSyntaxRules$Rule;I)V"⟩,
  ⟨"SyntaxRules$TestTree", "addTest", "(III)V"⟩,
  ⟨"SyntaxRules$TestTree", "layAll", "([LSyntaxRules$Rule;)I"⟩,
  ⟨"SyntaxRules$TestTree", "hangRow", "(LSyntaxRules$Rule;)V"⟩,
  ⟨"SyntaxRules$TestTree", "findBelow", "(ILSyntaxRules$Rule;I)I"⟩,
  ⟨"SyntaxRules$TestTree", "asksSame", "(ILSyntaxRules$Rule;I)Z"⟩,
  ⟨"SyntaxRules$TestTree", "hangTest", "(ILSyntaxRules$Rule;I)I"⟩,
  ⟨"SyntaxRules$TestTree", "askedOf", "(LSyntaxRules$Source;ILSyntaxRules$Fitting;)I"⟩,
  ⟨"SyntaxRules$TestTree", "holds", "(ILSyntaxRules$Source;ILSyntaxRules$Fitting;)Z"⟩,
  ⟨"SyntaxRules$TestTree", "isTwin", "(LSyntaxRules$Source;II)Z"⟩,
  ⟨"SyntaxRules$TestTree", "follow", "(LSyntaxRules$Rule;ILSyntaxRules$Source;I)I"⟩,
  ⟨"SyntaxRules$Walk", "<init>", "()V"⟩,
  ⟨"SyntaxRules$Walk", "lay", "(LSyntaxRules$Source;[LSyntaxRules$Rule;ILSyntaxRules$Fitting;)V"⟩,
  ⟨"SyntaxRules$Walk", "fromOutside", "(LSyntaxRules$Source;)V"⟩,
  ⟨"SyntaxRules$Walk", "fromInside", "(LSyntaxRules$Source;)V"⟩,
  ⟨"SyntaxRules$Walk", "ruleOf", "(I)I"⟩,
  ⟨"SyntaxRules$Writer", "<init>", "()V"⟩,
  ⟨"SyntaxRules$Writer", "clear", "(I)V"⟩,
  ⟨"SyntaxRules$Writer", "written", "()LSyntaxRules$Text;"⟩,
  ⟨"SyntaxRules$Writer", "putSeam", "()V"⟩,
  ⟨"SyntaxRules$Writer", "writeEdit", "(LSyntaxRules$Source;LSyntaxRules$Rule;ILSyntaxRules$Fitting;)V"⟩,
  ⟨"SyntaxRules$Writer", "findHeld", "(LSyntaxRules$Source;LSyntaxRules$Rule;ILSyntaxRules$Fitting;)V"⟩,
  ⟨"SyntaxRules$Writer", "isHeld", "(LSyntaxRules$Rule;II)Z"⟩,
  ⟨"SyntaxRules$Writer", "writePut", "(LSyntaxRules$Source;LSyntaxRules$Rule;)V"⟩,
  ⟨"SyntaxRules$Writer", "closeTerms", "(LSyntaxRules$Rule;I)V"⟩,
  ⟨"SyntaxRules$Writer", "putRow", "(LSyntaxRules$Text;II)V"⟩,
  ⟨"SyntaxRules$Writer", "putSign", "(I)V"⟩,
  ⟨"SyntaxRules$Writer", "append", "(I)V"⟩,
  ⟨"SyntaxRules$Past", "<init>", "()V"⟩,
  ⟨"SyntaxRules$Past", "add", "(LSyntaxRules$Text;)V"⟩,
  ⟨"SyntaxRules$Past", "takeLatest", "()LSyntaxRules$Text;"⟩,
  ⟨"SyntaxRules$Past", "forget", "()V"⟩,
  ⟨"SyntaxRules$Kept", "<init>", "()V"⟩,
  ⟨"SyntaxRulesModel", "<init>", "()V"⟩,
  ⟨"SyntaxRulesModel", "thrown", "()I"⟩,
  ⟨"SyntaxRulesModel", "in", "(JJJ)Z"⟩,
  ⟨"SyntaxRulesModel", "ruleAt", "(I)I"⟩,
  ⟨"SyntaxRulesModel", "isRule", "(I)Z"⟩,
  ⟨"SyntaxRulesModel", "isLetter", "(I)Z"⟩,
  ⟨"SyntaxRulesModel", "isDigit", "(I)Z"⟩,
  ⟨"SyntaxRulesModel", "sign", "(I)I"⟩,
  ⟨"SyntaxRulesModel", "end", "(I)Z"⟩,
  ⟨"SyntaxRulesModel", "wrong", "()V"⟩,
  ⟨"SyntaxRulesModel", "here", "()I"⟩,
  ⟨"SyntaxRulesModel", "readNote", "()V"⟩,
  ⟨"SyntaxRulesModel", "skipLayout", "()V"⟩,
  ⟨"SyntaxRulesModel", "readRow", "(ZI)I"⟩,
  ⟨"SyntaxRulesModel", "readNode", "()V"⟩,
  ⟨"SyntaxRulesModel", "close", "()V"⟩,
  ⟨"SyntaxRulesModel", "parses", "()Z"⟩,
  ⟨"SyntaxRulesModel", "parseRow", "()V"⟩,
  ⟨"SyntaxRulesModel", "isNode", "(I)Z"⟩,
  ⟨"SyntaxRulesModel", "of", "(II)I"⟩,
  ⟨"SyntaxRulesModel", "remember", "([I)V"⟩,
  ⟨"SyntaxRulesModel", "become", "()V"⟩,
  ⟨"SyntaxRulesModel", "takeText", "()V"⟩,
  ⟨"SyntaxRulesModel", "source", "()I"⟩,
  ⟨"SyntaxRulesModel", "peek", "()I"⟩,
  ⟨"SyntaxRulesModel", "put", "(III)I"⟩,
  ⟨"SyntaxRulesModel", "readName", "(II)V"⟩,
  ⟨"SyntaxRulesModel", "readHole", "(I)I"⟩,
  ⟨"SyntaxRulesModel", "readKind", "(I)V"⟩,
  ⟨"SyntaxRulesModel", "readOpen", "()V"⟩,
  ⟨"SyntaxRulesModel", "countItem", "(Z)V"⟩,
  ⟨"SyntaxRulesModel", "canBegin", "(I)Z"⟩,
  ⟨"SyntaxRulesModel", "readItem", "()V"⟩,
  ⟨"SyntaxRulesModel", "readSide", "(I)V"⟩,
  ⟨"SyntaxRulesModel", "readsRule", "()Z"⟩,
  ⟨"SyntaxRulesModel", "takeRule", "(I)V"⟩,
  ⟨"SyntaxRulesModel", "rule", "()I"⟩,
  ⟨"SyntaxRulesModel", "readRules", "()V"⟩,
  ⟨"SyntaxRulesModel", "rulesMany", "()I"⟩,
  ⟨"SyntaxRulesModel", "drop", "(I)I"⟩,
  ⟨"SyntaxRulesModel", "token", "(IIII)I"⟩,
  ⟨"SyntaxRulesModel", "isSame", "(II)Z"⟩,
  ⟨"SyntaxRulesModel", "areAlike", "(II)Z"⟩,
  ⟨"SyntaxRulesModel", "areRowsAlike", "(III)Z"⟩,
  ⟨"SyntaxRulesModel", "isName", "(IIII)Z"⟩,
  ⟨"SyntaxRulesModel", "fitsHole", "(III)Z"⟩,
  ⟨"SyntaxRulesModel", "fitsRow", "(III)Z"⟩,
  ⟨"SyntaxRulesModel", "fitsLeaf", "(III)Z"⟩,
  ⟨"SyntaxRulesModel", "goesAlong", "(III)Z"⟩,
  ⟨"SyntaxRulesModel", "goesOn", "()Z"⟩,
  ⟨"SyntaxRulesModel", "startChoices", "()V"⟩,
  ⟨"SyntaxRulesModel", "fits", "(III)Z"⟩,
  ⟨"SyntaxRulesModel", "fits", "(II)Z"⟩,
  ⟨"SyntaxRulesModel", "ways", "(II)I"⟩,
  ⟨"SyntaxRulesModel", "held", "(IIII)I"⟩,
  ⟨"SyntaxRulesModel", "found", "(II)I"⟩,
  ⟨"SyntaxRulesModel", "fitting", "(I)I"⟩,
  ⟨"SyntaxRulesModel", "rulesOf", "(I)I"⟩,
  ⟨"SyntaxRulesModel", "node", "(II)I"⟩,
  ⟨"SyntaxRulesModel", "name", "(II)I"⟩,
  ⟨"SyntaxRulesModel", "comment", "(II)I"⟩,
  ⟨"SyntaxRulesModel", "letter", "(I)I"⟩,
  ⟨"SyntaxRulesModel", "alike", "(II)I"⟩,
  ⟨"SyntaxRulesModel", "twins", "(II)I"⟩,
  ⟨"SyntaxRulesModel", "tokensOf", "(III)I"⟩,
  ⟨"SyntaxRulesModel", "lettersOf", "(I)I"⟩,
  ⟨"SyntaxRulesModel", "told", "(II)I"⟩,
  ⟨"SyntaxRulesModel", "behind", "(II)I"⟩,
  ⟨"SyntaxRulesModel", "addTest", "(III)I"⟩,
  ⟨"SyntaxRulesModel", "testHole", "(II)V"⟩,
  ⟨"SyntaxRulesModel", "testItem", "(II)I"⟩,
  ⟨"SyntaxRulesModel", "layTestsOf", "(I)V"⟩,
  ⟨"SyntaxRulesModel", "isSameWord", "(IIII)Z"⟩,
  ⟨"SyntaxRulesModel", "isSameToken", "(IIII)Z"⟩,
  ⟨"SyntaxRulesModel", "areSameTokens", "(IIII)Z"⟩,
  ⟨"SyntaxRulesModel", "isSameAsked", "(II)Z"⟩,
  ⟨"SyntaxRulesModel", "isSameOther", "(II)Z"⟩,
  ⟨"SyntaxRulesModel", "isSameTest", "(II)Z"⟩,
  ⟨"SyntaxRulesModel", "childOf", "(II)I"⟩,
  ⟨"SyntaxRulesModel", "layTests", "()V"⟩,
  ⟨"SyntaxRulesModel", "tests", "(I)I"⟩,
  ⟨"SyntaxRulesModel", "nodeAt", "(I[III)I"⟩,
  ⟨"SyntaxRulesModel", "isSo", "(II)Z"⟩,
  ⟨"SyntaxRulesModel", "asked", "(I)I"⟩,
  ⟨"SyntaxRulesModel", "leastRule", "(I)I"⟩,
  ⟨"SyntaxRulesModel", "addEdit", "(II)V"⟩,
  ⟨"SyntaxRulesModel", "walkOutside", "()V"⟩,
  ⟨"SyntaxRulesModel", "hasEdit", "(I)Z"⟩,
  ⟨"SyntaxRulesModel", "walkInside", "()V"⟩,
  ⟨"SyntaxRulesModel", "isWay", "(I)Z"⟩,
  ⟨"SyntaxRulesModel", "walk", "(I)V"⟩,
  ⟨"SyntaxRulesModel", "puts", "(I)V"⟩,
  ⟨"SyntaxRulesModel", "putsRow", "(II)V"⟩,
  ⟨"SyntaxRulesModel", "layHeld", "()V"⟩,
  ⟨"SyntaxRulesModel", "isHeld", "(II)Z"⟩,
  ⟨"SyntaxRulesModel", "putsToken", "(IIZ)V"⟩,
  ⟨"SyntaxRulesModel", "layComing", "(I)V"⟩,
  ⟨"SyntaxRulesModel", "edit", "(III)I"⟩,
  ⟨"SyntaxRulesModel", "comes", "(III)I"⟩,
  ⟨"SyntaxRulesModel", "rulesIn", "(I)I"⟩,
  ⟨"SyntaxRulesModel", "isEdit", "(I)Z"⟩,
  ⟨"SyntaxRulesModel", "conflicts", "(II)I"⟩,
  ⟨"SyntaxRulesModel", "areBeside", "(II)Z"⟩,
  ⟨"SyntaxRulesModel", "brings", "(IZ)V"⟩,
  ⟨"SyntaxRulesModel", "layApplied", "(I)Z"⟩,
  ⟨"SyntaxRulesModel", "bytesThen", "()I"⟩,
  ⟨"SyntaxRulesModel", "would", "(II)I"⟩,
  ⟨"SyntaxRulesModel", "apply", "(I)I"⟩,
  ⟨"SyntaxRulesModel", "cameAhead", "(I)Z"⟩,
  ⟨"SyntaxRulesModel", "keepCame", "(I)V"⟩,
  ⟨"SyntaxRulesModel", "goRounds", "(II)I"⟩,
  ⟨"SyntaxRulesModel", "rounds", "(II)I"⟩,
  ⟨"SyntaxRulesModel", "after", "(III)I"⟩,
  ⟨"SyntaxRulesModel", "undo", "()I"⟩,
  ⟨"SyntaxRulesModel", "keep", "(I)Z"⟩,
  ⟨"SyntaxRulesModel", "again", "(I)Z"⟩,
  ⟨"SyntaxRulesModel", "deepest", "()I"⟩,
  ⟨"SyntaxRulesModel", "count", "(I)I"⟩,
  ⟨"java/lang/Integer", "numberOfTrailingZeros", "(I)I"⟩,
  ⟨"java/lang/Integer", "bitCount", "(I)I"⟩,
  ⟨"java/lang/Math", "max", "(II)I"⟩,
  ⟨"java/lang/Math", "min", "(II)I"⟩,
  ⟨"SyntaxRulesLaw", "node", "(LSyntaxRules;II[J)I"⟩,
  ⟨"SyntaxRulesLaw", "law", "([I)Z"⟩,
  ⟨"SyntaxRules$TestTree", "layItem", "(LSyntaxRules$Rule;I)I"⟩]
def zNm (y : Nat) : MethodName := zNml.getD y ⟨"", "", ""⟩
def zBl : List (ByteArray) := [prog_1_method_1_code,
  prog_1_method_2_code,
  prog_1_method_3_code,
  prog_1_method_4_code,
  prog_1_method_5_code,
  prog_1_method_6_code,
  prog_1_method_7_code,
  prog_1_method_8_code,
  prog_1_method_9_code,
  prog_1_method_10_code,
  prog_1_method_11_code,
  prog_1_method_12_code,
  prog_1_method_13_code,
  prog_1_method_14_code,
  prog_1_method_15_code,
  prog_1_method_16_code,
  prog_1_method_17_code,
  prog_1_method_18_code,
  prog_1_method_19_code,
  prog_1_method_20_code,
  prog_1_method_21_code,
  prog_1_method_22_code,
  prog_1_method_23_code,
  prog_1_method_24_code,
  prog_1_method_25_code,
  prog_1_method_26_code,
  prog_1_method_27_code,
  prog_1_method_28_code,
  prog_1_method_29_code,
  prog_1_method_30_code,
  prog_1_method_31_code,
  prog_1_method_32_code,
  prog_1_method_33_code,
  prog_1_method_34_code,
  prog_1_method_35_code,
  prog_1_method_36_code,
  prog_1_method_37_code,
  prog_1_method_38_code,
  prog_1_method_39_code,
  prog_1_method_40_code,
  prog_1_method_41_code,
  prog_1_method_42_code,
  prog_1_method_43_code,
  prog_9_method_1_code,
  prog_9_method_2_code,
  prog_9_method_3_code,
  prog_9_method_4_code,
  prog_9_method_5_code,
  prog_9_method_6_code,
  prog_7_method_1_code,
  prog_7_method_2_code,
  prog_7_method_3_code,
  prog_7_method_4_code,
  prog_7_method_5_code,
  prog_7_method_6_code,
  prog_7_method_7_code,
  prog_7_method_8_code,
  prog_7_method_9_code,
  prog_7_method_10_code,
  prog_7_method_11_code,
  prog_7_method_12_code,
  prog_7_method_13_code,
  prog_7_method_14_code,
  prog_7_method_15_code,
  prog_7_method_16_code,
  prog_7_method_17_code,
  prog_5_method_1_code,
  prog_5_method_2_code,
  prog_5_method_3_code,
  prog_5_method_4_code,
  prog_5_method_5_code,
  prog_5_method_6_code,
  prog_5_method_7_code,
  prog_5_method_8_code,
  prog_6_method_1_code,
  prog_6_method_2_code,
  prog_6_method_3_code,
  prog_6_method_4_code,
  prog_6_method_5_code,
  prog_6_method_6_code,
  prog_6_method_7_code,
  prog_6_method_8_code,
  prog_6_method_9_code,
  prog_6_method_10_code,
  prog_6_method_11_code,
  prog_6_method_12_code,
  prog_6_method_13_code,
  prog_6_method_14_code,
  prog_6_method_15_code,
  prog_6_method_16_code,
  prog_2_method_1_code,
  prog_2_method_2_code,
  prog_2_method_3_code,
  prog_2_method_4_code,
  prog_2_method_5_code,
  prog_2_method_6_code,
  prog_2_method_7_code,
  prog_2_method_8_code,
  prog_2_method_9_code,
  prog_2_method_10_code,
  prog_2_method_11_code,
  prog_2_method_12_code,
  prog_2_method_13_code,
  prog_2_method_14_code,
  prog_8_method_1_code,
  prog_8_method_2_code,
  prog_8_method_4_code,
  prog_8_method_5_code,
  prog_8_method_6_code,
  prog_8_method_7_code,
  prog_8_method_8_code,
  prog_8_method_9_code,
  prog_8_method_10_code,
  prog_8_method_11_code,
  prog_8_method_12_code,
  prog_8_method_13_code,
  prog_8_method_14_code,
  prog_10_method_1_code,
  prog_10_method_2_code,
  prog_10_method_3_code,
  prog_10_method_4_code,
  prog_10_method_5_code,
  prog_11_method_1_code,
  prog_11_method_2_code,
  prog_11_method_3_code,
  prog_11_method_4_code,
  prog_11_method_5_code,
  prog_11_method_6_code,
  prog_11_method_7_code,
  prog_11_method_8_code,
  prog_11_method_9_code,
  prog_11_method_10_code,
  prog_11_method_11_code,
  prog_11_method_12_code,
  prog_4_method_1_code,
  prog_4_method_2_code,
  prog_4_method_3_code,
  prog_4_method_4_code,
  prog_3_method_1_code,
  prog_13_method_1_code,
  prog_13_method_2_code,
  prog_13_method_3_code,
  prog_13_method_4_code,
  prog_13_method_5_code,
  prog_13_method_6_code,
  prog_13_method_7_code,
  prog_13_method_8_code,
  prog_13_method_9_code,
  prog_13_method_10_code,
  prog_13_method_11_code,
  prog_13_method_12_code,
  prog_13_method_13_code,
  prog_13_method_14_code,
  prog_13_method_15_code,
  prog_13_method_16_code,
  prog_13_method_17_code,
  prog_13_method_18_code,
  prog_13_method_19_code,
  prog_13_method_20_code,
  prog_13_method_21_code,
  prog_13_method_22_code,
  prog_13_method_23_code,
  prog_13_method_24_code,
  prog_13_method_25_code,
  prog_13_method_26_code,
  prog_13_method_27_code,
  prog_13_method_28_code,
  prog_13_method_29_code,
  prog_13_method_30_code,
  prog_13_method_31_code,
  prog_13_method_32_code,
  prog_13_method_33_code,
  prog_13_method_34_code,
  prog_13_method_35_code,
  prog_13_method_36_code,
  prog_13_method_37_code,
  prog_13_method_38_code,
  prog_13_method_39_code,
  prog_13_method_40_code,
  prog_13_method_41_code,
  prog_13_method_42_code,
  prog_13_method_43_code,
  prog_13_method_44_code,
  prog_13_method_45_code,
  prog_13_method_46_code,
  prog_13_method_47_code,
  prog_13_method_48_code,
  prog_13_method_49_code,
  prog_13_method_50_code,
  prog_13_method_51_code,
  prog_13_method_52_code,
  prog_13_method_53_code,
  prog_13_method_54_code,
  prog_13_method_55_code,
  prog_13_method_56_code,
  prog_13_method_57_code,
  prog_13_method_58_code,
  prog_13_method_59_code,
  prog_13_method_60_code,
  prog_13_method_61_code,
  prog_13_method_62_code,
  prog_13_method_63_code,
  prog_13_method_64_code,
  prog_13_method_65_code,
  prog_13_method_66_code,
  prog_13_method_67_code,
  prog_13_method_68_code,
  prog_13_method_69_code,
  prog_13_method_70_code,
  prog_13_method_71_code,
  prog_13_method_72_code,
  prog_13_method_73_code,
  prog_13_method_74_code,
  prog_13_method_75_code,
  prog_13_method_76_code,
  prog_13_method_77_code,
  prog_13_method_78_code,
  prog_13_method_79_code,
  prog_13_method_80_code,
  prog_13_method_81_code,
  prog_13_method_82_code,
  prog_13_method_83_code,
  prog_13_method_84_code,
  prog_13_method_85_code,
  prog_13_method_86_code,
  prog_13_method_87_code,
  prog_13_method_88_code,
  prog_13_method_89_code,
  prog_13_method_90_code,
  prog_13_method_91_code,
  prog_13_method_92_code,
  prog_13_method_93_code,
  prog_13_method_94_code,
  prog_13_method_95_code,
  prog_13_method_96_code,
  prog_13_method_97_code,
  prog_13_method_98_code,
  prog_13_method_99_code,
  prog_13_method_100_code,
  prog_13_method_101_code,
  prog_13_method_102_code,
  prog_13_method_103_code,
  prog_13_method_104_code,
  prog_13_method_105_code,
  prog_13_method_106_code,
  prog_13_method_107_code,
  prog_13_method_108_code,
  prog_13_method_109_code,
  prog_13_method_110_code,
  prog_13_method_111_code,
  prog_13_method_112_code,
  prog_13_method_113_code,
  prog_13_method_114_code,
  prog_13_method_115_code,
  prog_13_method_116_code,
  prog_13_method_117_code,
  prog_13_method_118_code,
  prog_16_method_48_code,
  prog_16_method_49_code,
  prog_17_method_65_code,
  prog_17_method_69_code,
  method_3_code,
  code,
  prog_8_method_3_code]
def zB (y : Nat) : ByteArray := zBl.getD y ⟨#[]⟩
def zRtl : List (Option FieldType) := [none,
  some (.int),
  some (.boolean),
  some (.int),
  some (.int),
  some (.int),
  some (.int),
  some (.int),
  some (.int),
  some (.int),
  some (.int),
  some (.int),
  some (.int),
  some (.int),
  some (.int),
  some (.int),
  some (.int),
  some (.int),
  some (.int),
  some (.int),
  some (.int),
  some (.int),
  some (.int),
  some (.int),
  some (.int),
  some (.int),
  some (.int),
  some (.boolean),
  some (.boolean),
  some (.int),
  some (.boolean),
  some (.boolean),
  some (.boolean),
  some (.boolean),
  some (.boolean),
  some (.int),
  some (.int),
  none,
  some (.object "SyntaxRules$Writer"),
  none,
  some (.int),
  some (.boolean),
  none,
  none,
  some (.int),
  none,
  some (.boolean),
  some (.boolean),
  some (.int),
  none,
  some (.boolean),
  some (.boolean),
  none,
  some (.boolean),
  some (.boolean),
  some (.int),
  some (.boolean),
  some (.boolean),
  some (.boolean),
  some (.boolean),
  none,
  some (.boolean),
  some (.boolean),
  some (.boolean),
  some (.int),
  some (.int),
  none,
  some (.int),
  some (.int),
  some (.int),
  some (.int),
  some (.boolean),
  some (.boolean),
  some (.boolean),
  none,
  some (.object "SyntaxRules$Rule"),
  some (.boolean),
  some (.boolean),
  none,
  some (.boolean),
  some (.boolean),
  some (.int),
  some (.boolean),
  some (.int),
  none,
  some (.boolean),
  some (.boolean),
  some (.boolean),
  some (.boolean),
  some (.boolean),
  none,
  some (.boolean),
  some (.int),
  some (.int),
  some (.int),
  some (.int),
  some (.boolean),
  none,
  some (.boolean),
  some (.boolean),
  some (.boolean),
  some (.boolean),
  none,
  some (.boolean),
  none,
  some (.int),
  none,
  none,
  some (.int),
  none,
  some (.int),
  some (.boolean),
  some (.int),
  some (.int),
  some (.boolean),
  some (.boolean),
  some (.int),
  none,
  none,
  none,
  none,
  some (.int),
  none,
  none,
  some (.object "SyntaxRules$Text"),
  none,
  none,
  none,
  some (.boolean),
  none,
  none,
  none,
  none,
  none,
  none,
  none,
  some (.object "SyntaxRules$Text"),
  none,
  none,
  none,
  some (.int),
  some (.boolean),
  some (.int),
  some (.boolean),
  some (.boolean),
  some (.boolean),
  some (.int),
  some (.boolean),
  none,
  some (.int),
  none,
  none,
  some (.int),
  none,
  none,
  some (.boolean),
  none,
  some (.boolean),
  some (.int),
  none,
  none,
  none,
  some (.int),
  some (.int),
  some (.int),
  none,
  some (.int),
  none,
  none,
  none,
  some (.boolean),
  none,
  none,
  some (.boolean),
  none,
  some (.int),
  none,
  some (.int),
  some (.int),
  some (.int),
  some (.boolean),
  some (.boolean),
  some (.boolean),
  some (.boolean),
  some (.boolean),
  some (.boolean),
  some (.boolean),
  some (.boolean),
  some (.boolean),
  none,
  some (.boolean),
  some (.boolean),
  some (.int),
  some (.int),
  some (.int),
  some (.int),
  some (.int),
  some (.int),
  some (.int),
  some (.int),
  some (.int),
  some (.int),
  some (.int),
  some (.int),
  some (.int),
  some (.int),
  some (.int),
  some (.int),
  none,
  some (.int),
  none,
  some (.boolean),
  some (.boolean),
  some (.boolean),
  some (.boolean),
  some (.boolean),
  some (.boolean),
  some (.int),
  none,
  some (.int),
  some (.int),
  some (.boolean),
  some (.int),
  some (.int),
  none,
  none,
  some (.boolean),
  none,
  some (.boolean),
  none,
  none,
  none,
  none,
  some (.boolean),
  none,
  none,
  some (.int),
  some (.int),
  some (.int),
  some (.boolean),
  some (.int),
  some (.boolean),
  none,
  some (.boolean),
  some (.int),
  some (.int),
  some (.int),
  some (.boolean),
  none,
  some (.int),
  some (.int),
  some (.int),
  some (.int),
  some (.boolean),
  some (.boolean),
  some (.int),
  some (.int),
  some (.int),
  some (.int),
  some (.int),
  some (.int),
  some (.int),
  some (.boolean),
  some (.int)]
def zRt (y : Nat) : Option FieldType := zRtl.getD y none
def zFrl : List (Nat) := [6,
  0,
  0,
  6,
  6,
  1,
  1,
  1,
  0,
  1,
  3,
  3,
  4,
  4,
  5,
  5,
  5,
  7,
  7,
  7,
  7,
  6,
  7,
  7,
  7,
  7,
  6,
  2,
  6,
  2,
  0,
  0,
  0,
  0,
  0,
  0,
  4,
  0,
  6,
  5,
  6,
  2,
  0,
  1,
  0,
  1,
  1,
  0,
  1,
  2,
  5,
  4,
  1,
  3,
  0,
  0,
  2,
  0,
  2,
  1,
  0,
  2,
  1,
  1,
  0,
  1,
  2,
  0,
  0,
  0,
  0,
  1,
  2,
  0,
  1,
  5,
  2,
  4,
  1,
  0,
  3,
  1,
  1,
  1,
  0,
  2,
  2,
  0,
  1,
  0,
  1,
  4,
  4,
  0,
  3,
  2,
  1,
  0,
  2,
  0,
  0,
  1,
  0,
  2,
  1,
  3,
  1,
  0,
  6,
  5,
  4,
  3,
  0,
  5,
  4,
  3,
  1,
  1,
  5,
  1,
  1,
  0,
  2,
  0,
  1,
  0,
  4,
  1,
  0,
  3,
  2,
  2,
  1,
  0,
  2,
  2,
  0,
  0,
  2,
  6,
  0,
  0,
  0,
  1,
  1,
  1,
  0,
  1,
  0,
  0,
  1,
  2,
  2,
  3,
  0,
  4,
  5,
  1,
  0,
  0,
  6,
  0,
  7,
  1,
  0,
  3,
  1,
  1,
  4,
  0,
  2,
  5,
  6,
  7,
  0,
  8,
  8,
  2,
  8,
  0,
  1,
  2,
  3,
  1,
  3,
  4,
  4,
  5,
  0,
  0,
  6,
  7,
  6,
  8,
  8,
  8,
  9,
  2,
  2,
  1,
  1,
  3,
  3,
  1,
  1,
  2,
  1,
  0,
  1,
  2,
  3,
  1,
  2,
  3,
  4,
  0,
  5,
  6,
  7,
  0,
  1,
  7,
  8,
  8,
  0,
  9,
  1,
  9,
  1,
  10,
  0,
  1,
  1,
  1,
  2,
  8,
  11,
  11,
  0,
  0,
  11,
  2,
  3,
  11,
  0,
  12,
  12,
  0,
  0,
  12,
  13,
  13,
  6,
  1,
  9,
  1,
  3,
  0,
  0,
  0,
  0,
  2,
  14,
  2]
def zFr (y : Nat) : Nat := zFrl.getD y 0
def zLol : List (Nat) := [137,
  0,
  0,
  137,
  136,
  22,
  21,
  21,
  0,
  21,
  73,
  73,
  91,
  105,
  128,
  128,
  130,
  170,
  170,
  173,
  173,
  155,
  180,
  180,
  180,
  180,
  137,
  48,
  137,
  43,
  0,
  0,
  0,
  0,
  0,
  0,
  91,
  0,
  151,
  128,
  155,
  46,
  0,
  20,
  0,
  27,
  25,
  0,
  21,
  40,
  116,
  94,
  21,
  70,
  0,
  0,
  46,
  0,
  43,
  21,
  0,
  51,
  25,
  25,
  0,
  21,
  40,
  0,
  0,
  0,
  0,
  25,
  49,
  0,
  20,
  115,
  42,
  93,
  21,
  0,
  70,
  20,
  20,
  21,
  0,
  46,
  42,
  0,
  21,
  0,
  20,
  105,
  105,
  0,
  74,
  43,
  22,
  0,
  49,
  0,
  0,
  22,
  0,
  51,
  20,
  68,
  23,
  0,
  148,
  124,
  99,
  75,
  0,
  132,
  105,
  73,
  24,
  20,
  130,
  21,
  21,
  0,
  40,
  0,
  21,
  0,
  91,
  23,
  0,
  66,
  42,
  42,
  21,
  0,
  40,
  48,
  0,
  0,
  40,
  133,
  0,
  0,
  0,
  25,
  25,
  25,
  0,
  25,
  0,
  0,
  25,
  47,
  45,
  68,
  0,
  92,
  112,
  25,
  0,
  0,
  133,
  0,
  154,
  20,
  0,
  68,
  25,
  20,
  91,
  0,
  45,
  111,
  132,
  154,
  0,
  198,
  198,
  46,
  198,
  0,
  22,
  46,
  70,
  24,
  70,
  97,
  95,
  124,
  0,
  0,
  152,
  176,
  152,
  198,
  198,
  198,
  221,
  46,
  46,
  25,
  25,
  70,
  70,
  24,
  24,
  49,
  24,
  0,
  25,
  50,
  73,
  24,
  50,
  75,
  102,
  0,
  128,
  152,
  175,
  0,
  22,
  176,
  201,
  198,
  0,
  220,
  22,
  220,
  25,
  242,
  0,
  21,
  22,
  24,
  44,
  198,
  263,
  263,
  0,
  0,
  263,
  45,
  66,
  263,
  0,
  288,
  288,
  0,
  0,
  288,
  312,
  312,
  133,
  25,
  220,
  22,
  68,
  0,
  0,
  0,
  0,
  43,
  338,
  46]
def zLo (y : Nat) : Nat := zLol.getD y 0
def zowl : List (Nat) := [0,
  0,
  0,
  0,
  0,
  0,
  0,
  0,
  0,
  0,
  0,
  0,
  0,
  0,
  0,
  0,
  0,
  0,
  0,
  0,
  0,
  0,
  0,
  0,
  0,
  0,
  0,
  0,
  0,
  0,
  0,
  0,
  0,
  0,
  0,
  0,
  0,
  0,
  0,
  0,
  0,
  0,
  0,
  1,
  1,
  1,
  1,
  1,
  1,
  2,
  2,
  2,
  2,
  2,
  2,
  2,
  2,
  2,
  2,
  2,
  2,
  2,
  2,
  2,
  2,
  2,
  3,
  3,
  3,
  3,
  3,
  3,
  3,
  3,
  4,
  4,
  4,
  4,
  4,
  4,
  4,
  4,
  4,
  4,
  4,
  4,
  4,
  4,
  4,
  4,
  5,
  5,
  5,
  5,
  5,
  5,
  5,
  5,
  5,
  5,
  5,
  5,
  5,
  5,
  6,
  6,
  6,
  6,
  6,
  6,
  6,
  6,
  6,
  6,
  6,
  6,
  6,
  7,
  7,
  7,
  7,
  7,
  8,
  8,
  8,
  8,
  8,
  8,
  8,
  8,
  8,
  8,
  8,
  8,
  9,
  9,
  9,
  9,
  10,
  11,
  11,
  11,
  11,
  11,
  11,
  11,
  11,
  11,
  11,
  11,
  11,
  11,
  11,
  11,
  11,
  11,
  11,
  11,
  11,
  11,
  11,
  11,
  11,
  11,
  11,
  11,
  11,
  11,
  11,
  11,
  11,
  11,
  11,
  11,
  11,
  11,
  11,
  11,
  11,
  11,
  11,
  11,
  11,
  11,
  11,
  11,
  11,
  11,
  11,
  11,
  11,
  11,
  11,
  11,
  11,
  11,
  11,
  11,
  11,
  11,
  11,
  11,
  11,
  11,
  11,
  11,
  11,
  11,
  11,
  11,
  11,
  11,
  11,
  11,
  11,
  11,
  11,
  11,
  11,
  11,
  11,
  11,
  11,
  11,
  11,
  11,
  11,
  11,
  11,
  11,
  11,
  11,
  11,
  11,
  11,
  11,
  11,
  11,
  11,
  11,
  11,
  11,
  11,
  11,
  11,
  11,
  11,
  11,
  11,
  11,
  11,
  11,
  11,
  11,
  11,
  11,
  11,
  13,
  13,
  99,
  99,
  12,
  12,
  6]
def zow (y : Nat) : Nat := zowl.getD y 99
def zNpl : List (Nat) := [0,
  1,
  1,
  0,
  0,
  1,
  2,
  2,
  2,
  1,
  2,
  2,
  2,
  2,
  4,
  2,
  1,
  1,
  1,
  3,
  3,
  2,
  2,
  1,
  2,
  3,
  0,
  1,
  1,
  1,
  1,
  1,
  1,
  1,
  1,
  0,
  0,
  0,
  2,
  2,
  3,
  2,
  2,
  0,
  1,
  1,
  1,
  4,
  3,
  0,
  1,
  0,
  0,
  1,
  1,
  1,
  2,
  1,
  0,
  0,
  1,
  2,
  3,
  3,
  2,
  0,
  0,
  3,
  2,
  1,
  1,
  3,
  3,
  3,
  0,
  1,
  0,
  0,
  0,
  0,
  1,
  1,
  1,
  1,
  1,
  2,
  1,
  2,
  1,
  1,
  0,
  3,
  3,
  1,
  5,
  0,
  1,
  2,
  2,
  1,
  1,
  1,
  1,
  1,
  0,
  1,
  2,
  3,
  1,
  1,
  3,
  3,
  3,
  3,
  4,
  3,
  4,
  0,
  4,
  1,
  1,
  1,
  0,
  1,
  0,
  0,
  4,
  4,
  3,
  2,
  2,
  3,
  1,
  1,
  0,
  1,
  0,
  0,
  0,
  0,
  0,
  3,
  1,
  1,
  1,
  1,
  1,
  1,
  0,
  0,
  0,
  0,
  2,
  0,
  0,
  0,
  0,
  1,
  2,
  1,
  0,
  0,
  0,
  0,
  3,
  2,
  1,
  1,
  0,
  1,
  1,
  0,
  1,
  0,
  1,
  0,
  0,
  0,
  1,
  4,
  2,
  2,
  3,
  4,
  3,
  3,
  3,
  3,
  0,
  0,
  3,
  2,
  2,
  4,
  2,
  1,
  1,
  2,
  2,
  2,
  1,
  2,
  2,
  3,
  1,
  2,
  2,
  3,
  2,
  2,
  1,
  4,
  4,
  4,
  2,
  2,
  2,
  2,
  0,
  1,
  4,
  2,
  1,
  1,
  2,
  0,
  1,
  0,
  1,
  1,
  1,
  2,
  0,
  2,
  3,
  1,
  3,
  3,
  1,
  1,
  2,
  2,
  2,
  1,
  0,
  2,
  1,
  1,
  1,
  2,
  2,
  3,
  0,
  1,
  1,
  0,
  1,
  1,
  1,
  2,
  2,
  4,
  1,
  2]
def zNp (y : Nat) : Nat := zNpl.getD y 0
def zOwS (c : Nat) : String := ["SyntaxRules", "SyntaxRules$Text", "SyntaxRules$Source", "SyntaxRules$Rule", "SyntaxRules$RuleReader", "SyntaxRules$Fitting", "SyntaxRules$TestTree", "SyntaxRules$Walk", "SyntaxRules$Writer", "SyntaxRules$Past", "SyntaxRules$Kept", "SyntaxRulesModel", "SyntaxRulesLaw", "java/lang/Integer"].getD c ""
/-- no long among its locals -/
def znl (y : Nat) : Bool := !(Nat.beq y 141)
def zFL : Nat → List (Nat × Nat × Nat)
  | 0 => [(88, 1, 0), (92, 1, 1), (103, 2, 0), (134, 2, 1), (137, 2, 2), (140, 2, 3), (143, 2, 4), (146, 2, 5), (149, 2, 6), (152, 2, 7), (155, 2, 8), (161, 2, 9), (158, 2, 10), (170, 2, 11), (173, 2, 12), (176, 2, 13), (113, 2, 14), (167, 2, 15), (100, 2, 16), (119, 4, 0), (220, 5, 2), (245, 7, 0), (251, 7, 1), (268, 7, 2), (265, 7, 3), (258, 8, 0), (259, 8, 1), (262, 8, 2), (286, 9, 0), (295, 10, 0), (289, 10, 1), (290, 10, 2), (12, 0, 0), (19, 0, 1), (23, 0, 2), (26, 0, 3), (31, 0, 4), (38, 0, 5), (45, 0, 6), (52, 0, 7), (59, 0, 8), (66, 0, 9), (73, 0, 10), (79, 0, 11), (83, 0, 12), (202, 3, 13), (187, 3, 14), (194, 3, 15)]
  | 1 => [(9, 1, 0), (15, 1, 1)]
  | 2 => [(122, 1, 0), (82, 1, 1), (12, 2, 0), (18, 2, 1), (22, 2, 2), (25, 2, 3), (28, 2, 4), (31, 2, 5), (34, 2, 6), (37, 2, 7), (40, 2, 8), (43, 2, 9), (46, 2, 10), (49, 2, 11), (52, 2, 12), (55, 2, 13), (62, 2, 14), (66, 2, 15), (69, 2, 16), (72, 2, 17), (141, 3, 0), (142, 3, 11), (136, 3, 12)]
  | 3 => [(12, 3, 0), (18, 3, 1), (22, 3, 2), (25, 3, 3), (28, 3, 4), (31, 3, 5), (34, 3, 6), (37, 3, 7), (40, 3, 8), (43, 3, 9), (46, 3, 10), (49, 3, 11), (52, 3, 12), (55, 3, 14)]
  | 4 => [(63, 1, 1), (33, 4, 0), (32, 4, 1), (18, 4, 2), (78, 4, 3), (81, 4, 4), (49, 4, 5), (37, 4, 6), (40, 4, 7), (43, 4, 8), (46, 4, 9), (9, 4, 10), (22, 3, 0), (94, 3, 1), (119, 3, 2), (122, 3, 3), (125, 3, 4), (128, 3, 5), (135, 3, 6), (138, 3, 7), (141, 3, 8), (144, 3, 9), (163, 3, 10), (151, 3, 11), (154, 3, 12), (66, 3, 13), (69, 3, 14), (72, 3, 15)]
  | 5 => [(108, 2, 1), (93, 2, 4), (105, 2, 7), (9, 5, 0), (15, 5, 1), (18, 5, 2), (21, 5, 3), (24, 5, 4), (27, 5, 5), (46, 5, 6), (34, 5, 7), (38, 5, 8), (42, 5, 9), (84, 5, 10), (87, 5, 11), (70, 3, 1), (129, 3, 2), (111, 3, 3), (81, 3, 4), (90, 3, 5), (122, 3, 7), (123, 3, 8), (49, 3, 10)]
  | 6 => [(134, 2, 1), (140, 2, 4), (55, 6, 0), (11, 6, 1), (15, 6, 2), (18, 6, 3), (21, 6, 4), (89, 6, 5), (92, 6, 6), (24, 6, 7), (29, 6, 8), (33, 6, 9), (36, 6, 10), (39, 6, 11), (42, 6, 12), (45, 6, 13), (48, 6, 14), (52, 6, 15), (66, 3, 1), (83, 3, 2), (86, 3, 3), (155, 3, 4), (158, 3, 6), (117, 3, 7), (69, 3, 8), (76, 3, 10), (59, 3, 14)]
  | 7 => [(56, 2, 2), (53, 2, 7), (25, 2, 14), (44, 7, 0), (9, 7, 1), (15, 7, 2), (18, 7, 3), (21, 7, 4)]
  | 8 => [(150, 1, 0), (51, 1, 1), (85, 2, 0), (75, 2, 5), (78, 2, 6), (69, 2, 11), (72, 2, 12), (64, 2, 15), (111, 5, 0), (114, 5, 1), (106, 5, 2), (25, 8, 0), (29, 8, 1), (32, 8, 2), (35, 8, 3), (38, 8, 4), (41, 8, 5), (12, 8, 6), (18, 8, 7), (22, 8, 8), (123, 3, 0), (120, 3, 1), (100, 3, 2), (117, 3, 4), (134, 3, 10), (124, 3, 11), (127, 3, 12), (57, 3, 13), (52, 3, 14)]
  | 9 => [(18, 9, 0), (22, 9, 1), (11, 9, 2)]
  | 10 => [(12, 10, 1), (20, 10, 2)]
  | 11 => [(141, 11, 0), (7, 11, 1), (13, 11, 2), (16, 11, 3), (20, 11, 4), (232, 11, 5), (23, 11, 6), (163, 11, 7), (27, 11, 8), (176, 11, 9), (30, 11, 10), (206, 11, 11), (33, 11, 12), (190, 11, 13), (36, 11, 14), (193, 11, 15), (170, 11, 16), (173, 11, 17), (166, 11, 18), (39, 11, 19), (226, 11, 20), (42, 11, 21), (229, 11, 22), (45, 11, 23), (48, 11, 24), (51, 11, 25), (54, 11, 26), (266, 11, 27), (269, 11, 28), (272, 11, 29), (57, 11, 30), (60, 11, 31), (245, 11, 32), (263, 11, 33), (63, 11, 34), (328, 11, 35), (331, 11, 36), (66, 11, 37), (69, 11, 38), (72, 11, 39), (75, 11, 40), (78, 11, 41), (81, 11, 42), (84, 11, 43), (87, 11, 44), (90, 11, 45), (93, 11, 46), (96, 11, 47), (99, 11, 48), (381, 11, 49), (102, 11, 50), (105, 11, 51), (108, 11, 52), (111, 11, 53), (411, 11, 54), (417, 11, 55), (114, 11, 56), (117, 11, 57), (120, 11, 58), (433, 11, 59), (123, 11, 60), (126, 11, 61), (451, 11, 62), (463, 11, 63), (129, 11, 64), (132, 11, 65), (493, 11, 66), (135, 11, 67)]
  | 12 => []
  | 13 => []
  | _ => []
def zML : Nat → List (Nat × Nat × Nat)
  | 0 => [(3, 9999, 10), (11, 43, 3), (18, 49, 3), (37, 74, 3), (44, 90, 3), (51, 104, 3), (58, 117, 3), (65, 122, 3), (72, 134, 1), (87, 138, 3), (96, 50, 0), (106, 135, 0), (110, 37, 0), (116, 75, 0), (120, 31, 0), (124, 35, 0), (128, 30, 0), (164, 44, 0), (179, 61, 0), (183, 105, 0), (190, 67, 0), (197, 258, 2), (205, 94, 0), (209, 68, 0), (213, 91, 0), (217, 93, 0), (223, 92, 0), (227, 36, 0), (230, 108, 0), (234, 113, 0), (238, 32, 2), (241, 118, 0), (248, 121, 0), (254, 38, 0), (305, 123, 0), (309, 39, 0), (313, 126, 0), (271, 40, 0), (316, 131, 0), (320, 125, 0), (323, 124, 0), (275, 45, 0), (278, 41, 0), (326, 46, 0), (282, 136, 0), (291, 42, 2), (299, 137, 0), (302, 65, 0)]
  | 1 => [(3, 9999, 10), (19, 9998, 11), (29, 44, 0), (33, 33, 4), (37, 34, 4), (25, 47, 0)]
  | 2 => [(3, 9999, 10), (11, 43, 3), (58, 45, 0), (75, 51, 0), (79, 58, 0), (85, 44, 0), (119, 59, 0), (125, 60, 0), (88, 52, 0), (95, 57, 0), (91, 53, 0), (98, 33, 4), (101, 34, 4), (104, 54, 0), (108, 55, 0), (111, 56, 0), (115, 48, 0), (129, 62, 0), (133, 47, 0), (145, 9996, 12)]
  | 3 => [(3, 9999, 10), (11, 43, 3), (63, 71, 0), (59, 47, 0)]
  | 4 => [(3, 9999, 10), (17, 66, 3), (26, 45, 0), (53, 77, 0), (60, 78, 0), (75, 44, 0), (84, 79, 0), (87, 89, 0), (91, 80, 0), (97, 81, 2), (106, 33, 4), (116, 34, 4), (100, 82, 0), (103, 83, 0), (131, 84, 0), (109, 85, 0), (147, 48, 0), (113, 86, 0), (157, 87, 0), (160, 88, 0), (57, 76, 0)]
  | 5 => [(3, 9999, 10), (55, 98, 0), (98, 97, 0), (102, 101, 0), (126, 69, 0), (112, 100, 0), (73, 70, 0), (77, 102, 0), (115, 63, 0), (119, 99, 0), (59, 103, 0), (132, 68, 0), (136, 62, 0), (63, 95, 0), (67, 96, 0), (30, 94, 0)]
  | 6 => [(5, 9999, 10), (62, 263, 0), (72, 107, 0), (79, 106, 0), (95, 109, 0), (99, 105, 0), (103, 110, 0), (110, 111, 0), (114, 73, 0), (120, 72, 0), (123, 71, 0), (107, 112, 0), (126, 114, 0), (130, 116, 0), (161, 64, 0), (137, 63, 0), (141, 115, 2), (151, 61, 0), (145, 94, 0)]
  | 7 => [(3, 9999, 10), (31, 92, 0), (37, 119, 0), (47, 257, 2), (41, 120, 0)]
  | 8 => [(3, 9999, 10), (11, 43, 3), (60, 127, 0), (103, 68, 0), (81, 128, 0), (88, 131, 0), (137, 44, 0), (92, 132, 0), (140, 33, 4), (144, 34, 4), (147, 133, 0), (96, 129, 0), (130, 130, 0), (45, 9995, 13)]
  | 9 => [(3, 9999, 10), (17, 43, 3), (25, 45, 0)]
  | 10 => [(3, 9999, 10), (11, 43, 3)]
  | 11 => [(1, 9999, 10), (138, 156, 0), (222, 155, 0), (209, 151, 0), (179, 149, 0), (196, 150, 0), (147, 141, 2), (187, 148, 0), (216, 154, 0), (219, 153, 0), (199, 144, 2), (203, 145, 2), (212, 152, 0), (235, 161, 0), (238, 159, 0), (242, 160, 0), (298, 173, 0), (295, 172, 0), (256, 163, 0), (248, 164, 0), (292, 171, 0), (275, 170, 0), (278, 169, 0), (282, 166, 0), (285, 167, 0), (289, 168, 0), (259, 165, 0), (301, 143, 0), (151, 142, 2), (304, 174, 0), (307, 218, 0), (420, 210, 0), (324, 179, 0), (393, 209, 0), (384, 207, 0), (387, 206, 0), (390, 208, 0), (423, 217, 0), (414, 216, 0), (408, 214, 0), (396, 211, 0), (402, 215, 0), (405, 213, 0), (399, 212, 0), (310, 177, 0), (363, 157, 0), (351, 189, 0), (354, 187, 0), (345, 185, 0), (313, 158, 0), (334, 182, 0), (321, 181, 0), (317, 180, 0), (341, 183, 0), (348, 186, 0), (338, 184, 0), (357, 188, 0), (368, 191, 0), (360, 190, 0), (370, 195, 0), (375, 203, 0), (378, 204, 0), (430, 221, 0), (426, 220, 0), (473, 228, 2), (476, 229, 0), (445, 225, 0), (436, 223, 0), (439, 224, 0), (448, 227, 0), (442, 226, 0), (481, 235, 0), (460, 232, 0), (466, 233, 0), (457, 231, 0), (454, 230, 0), (469, 234, 0), (484, 239, 0), (487, 238, 0), (500, 243, 0), (496, 242, 0), (490, 241, 2), (503, 244, 0), (511, 249, 0), (506, 248, 0), (514, 247, 0), (517, 176, 0), (520, 255, 0)]
  | 12 => [(15, 0, 1), (19, 1, 0), (24, 2, 0), (29, 3, 0), (34, 4, 0), (38, 5, 0), (51, 7, 0), (55, 8, 0), (59, 9, 0), (63, 10, 0), (67, 11, 0), (71, 12, 0), (75, 13, 0), (79, 14, 0), (84, 15, 0), (88, 16, 0), (92, 17, 0), (96, 18, 0), (100, 19, 0), (105, 20, 0), (109, 21, 0), (113, 22, 0), (117, 23, 0), (121, 24, 0), (125, 25, 0), (129, 26, 0), (133, 27, 0), (137, 28, 0), (141, 29, 0), (7, 6, 0), (18, 139, 1), (48, 140, 0), (23, 146, 0), (28, 147, 0), (33, 162, 0), (37, 175, 0), (41, 178, 0), (78, 192, 0), (83, 193, 0), (87, 194, 0), (91, 196, 0), (47, 197, 0), (54, 198, 0), (58, 199, 0), (62, 200, 0), (66, 201, 0), (70, 202, 0), (74, 205, 0), (95, 219, 0), (99, 222, 0), (104, 236, 0), (108, 237, 0), (112, 240, 0), (116, 245, 0), (120, 246, 0), (124, 250, 0), (128, 251, 0), (132, 252, 0), (136, 253, 0), (140, 254, 0), (144, 256, 0)]
  | 13 => []
  | _ => []
def zCK : Nat → List (Nat × Nat × Nat)
  | 0 => []
  | 1 => []
  | 2 => []
  | 3 => []
  | 4 => []
  | 5 => [(54, 1000000, 0)]
  | 6 => []
  | 7 => []
  | 8 => []
  | 9 => []
  | 10 => []
  | 11 => [(183, 32, 1), (185, 126, 1), (155, 97, 1), (157, 122, 1), (159, 48, 1), (161, 57, 1), (252, 65, 1), (254, 90, 1), (145, 7, 1), (366, 25, 1), (373, 2, 1), (479, 3, 1), (509, 6, 1)]
  | 12 => []
  | 13 => [(265, 1431655765, 0), (266, 858993459, 0), (267, 252645135, 0), (264, 65536, 0)]
  | _ => []
def zCL : Nat → List (Nat × Nat)
  | 0 => [(9, 1), (16, 2), (29, 3), (35, 4), (42, 5), (49, 6), (56, 7), (63, 8), (70, 9), (77, 10)]
  | 1 => []
  | 2 => [(9, 1)]
  | 3 => [(9, 1)]
  | 4 => [(15, 3)]
  | 5 => []
  | 6 => [(27, 3)]
  | 7 => []
  | 8 => [(9, 1)]
  | 9 => [(9, 1)]
  | 10 => [(9, 1), (18, 3)]
  | 11 => []
  | 12 => [(8, 0), (16, 11)]
  | 13 => []
  | _ => []
def zNst : List Cond := [.methodLinkNest "SyntaxRules" 11 ⟨"SyntaxRules$Text", "<init>", "()V"⟩ "SyntaxRules", .methodLinkNest "SyntaxRules" 18 ⟨"SyntaxRules$Source", "<init>", "()V"⟩ "SyntaxRules", .methodLinkNest "SyntaxRules$Source" 11 ⟨"SyntaxRules$Text", "<init>", "()V"⟩ "SyntaxRules", .methodLinkNest "SyntaxRules" 37 ⟨"SyntaxRules$RuleReader", "<init>", "()V"⟩ "SyntaxRules", .methodLinkNest "SyntaxRules" 44 ⟨"SyntaxRules$Fitting", "<init>", "()V"⟩ "SyntaxRules", .methodLinkNest "SyntaxRules" 51 ⟨"SyntaxRules$TestTree", "<init>", "()V"⟩ "SyntaxRules", .methodLinkNest "SyntaxRules" 58 ⟨"SyntaxRules$Walk", "<init>", "()V"⟩ "SyntaxRules", .methodLinkNest "SyntaxRules" 65 ⟨"SyntaxRules$Writer", "<init>", "()V"⟩ "SyntaxRules", .methodLinkNest "SyntaxRules$Writer" 11 ⟨"SyntaxRules$Text", "<init>", "()V"⟩ "SyntaxRules", .methodLinkNest "SyntaxRules$Past" 17 ⟨"SyntaxRules$Text", "<init>", "()V"⟩ "SyntaxRules", .methodLinkNest "SyntaxRules" 87 ⟨"SyntaxRules$Kept", "<init>", "()V"⟩ "SyntaxRules", .methodLinkNest "SyntaxRules$Kept" 11 ⟨"SyntaxRules$Text", "<init>", "()V"⟩ "SyntaxRules", .methodLinkNest "SyntaxRules$Source" 98 ⟨"SyntaxRules", "isLetter", "(I)Z"⟩ "SyntaxRules", .methodLinkNest "SyntaxRules$Source" 101 ⟨"SyntaxRules", "isDigit", "(I)Z"⟩ "SyntaxRules", .methodLinkNest "SyntaxRules$Text" 33 ⟨"SyntaxRules", "isLetter", "(I)Z"⟩ "SyntaxRules", .methodLinkNest "SyntaxRules$Text" 37 ⟨"SyntaxRules", "isDigit", "(I)Z"⟩ "SyntaxRules", .methodLinkNest "SyntaxRules$RuleReader" 17 ⟨"SyntaxRules$Rule", "<init>", "()V"⟩ "SyntaxRules", .methodLinkNest "SyntaxRules$Rule" 11 ⟨"SyntaxRules$Text", "<init>", "()V"⟩ "SyntaxRules", .methodLinkNest "SyntaxRules$RuleReader" 106 ⟨"SyntaxRules", "isLetter", "(I)Z"⟩ "SyntaxRules", .methodLinkNest "SyntaxRules$RuleReader" 116 ⟨"SyntaxRules", "isDigit", "(I)Z"⟩ "SyntaxRules", .methodLinkNest "SyntaxRules$Writer" 140 ⟨"SyntaxRules", "isLetter", "(I)Z"⟩ "SyntaxRules", .methodLinkNest "SyntaxRules$Writer" 144 ⟨"SyntaxRules", "isDigit", "(I)Z"⟩ "SyntaxRules"]
def zcal : List Nat := [0, 1, 2, 3, 4, 5, 6, 7, 8, 9, 10, 11, 12, 13, 14, 15, 16, 17, 18, 19, 20, 21, 22, 23, 24, 25, 26, 27, 28, 29, 30, 31, 32, 33, 34, 35, 36, 37, 38, 39, 40, 41, 42, 43, 44, 45, 46, 47, 48, 49, 50, 51, 52, 53, 54, 55, 56, 57, 58, 59, 60, 61, 62, 63, 64, 65, 66, 67, 68, 69, 70, 71, 72, 73, 74, 75, 76, 77, 78, 79, 80, 81, 82, 83, 84, 85, 86, 87, 88, 89, 90, 91, 92, 93, 94, 95, 96, 97, 98, 99, 100, 101, 102, 103, 104, 105, 106, 107, 108, 109, 110, 111, 112, 113, 114, 115, 116, 117, 118, 119, 120, 121, 122, 123, 124, 125, 126, 127, 128, 129, 130, 131, 132, 133, 134, 135, 136, 137, 138, 139, 140, 141, 142, 143, 144, 145, 146, 147, 148, 149, 150, 151, 152, 153, 154, 155, 156, 157, 158, 159, 160, 161, 162, 163, 164, 165, 166, 167, 168, 169, 170, 171, 172, 173, 174, 175, 176, 177, 178, 179, 180, 181, 182, 183, 184, 185, 186, 187, 188, 189, 190, 191, 192, 193, 194, 195, 196, 197, 198, 199, 200, 201, 202, 203, 204, 205, 206, 207, 208, 209, 210, 211, 212, 213, 214, 215, 216, 217, 218, 219, 220, 221, 222, 223, 224, 225, 226, 227, 228, 229, 230, 231, 232, 233, 234, 235, 236, 237, 238, 239, 240, 241, 242, 243, 244, 245, 246, 247, 248, 249, 250, 251, 252, 253, 254, 255, 256, 257, 258, 263]
/-- the words by the tables -/
def zcr (c : Nat) : vw_C := zcl.getD c ("", fun _ => ("", "", "", false), 0)
def zwF (o : Nat) (q : Nat × Nat × Nat) : Cond := .fieldLink (zOwS o) q.1 ((zcr q.2.1).2.1 q.2.2).1 ((zcr q.2.1).2.1 q.2.2).2.1 ((zcr q.2.1).2.1 q.2.2).2.2.1
def zwM (o : Nat) (q : Nat × Nat × Nat) : List Cond := match q.2.2 with
  | 0 => [.methodLink (zOwS o) q.1 (zNm q.2.1), .instanceMethod (zNm q.2.1), .selects (zNm q.2.1).cls (zNm q.2.1) (zNm q.2.1)]
  | 1 => [.methodLink (zOwS o) q.1 (zNm q.2.1), .instanceMethod (zNm q.2.1)]
  | 2 => [.methodLink (zOwS o) q.1 (zNm q.2.1), .static (zNm q.2.1)]
  | 3 => [.instanceMethod (zNm q.2.1)]
  | 4 => [.static (zNm q.2.1)]
  | 10 => [.methodLink (zOwS o) q.1 objectInit]
  | 11 => [.methodLink (zOwS o) q.1 arraycopyName]
  | 12 => [.methodLink (zOwS o) q.1 Lib.Math.max.name]
  | 13 => [.methodLink (zOwS o) q.1 Lib.Math.min.name]
  | _ => []
def zwK (o : Nat) (q : Nat × Nat × Nat) : Cond := match q.2.2 with
  | 0 => .constant (zOwS o) q.1 (Int32.ofNat q.2.1)
  | _ => .constantLong (zOwS o) q.1 (Int64.ofNat q.2.1)
def zwC (o : Nat) (q : Nat × Nat) : Cond := .classLink (zOwS o) q.1 (zcr q.2).1
def zwY (y : Nat) : List Cond := [.code (zNm y) (zB y) (zLM y) (zRt y), .initialized (zNm y).cls]
def zwds : List Cond := [.instanceMethod objectInit, .code objectInit ⟨#[0xb1]⟩ 1 none, .native arraycopyName, .static arraycopyName, .initialized "java/lang/System", .static Lib.Math.max.name, .static Lib.Math.min.name, .initialized "java/lang/Math", .code Lib.Math.max.name Lib.Math.max.code 2 (some .int), .code Lib.Math.min.name Lib.Math.min.code 2 (some .int), .arrayClass .int, .arrayClass .boolean, .arrayClass .byte, .arrayClass .long]
def zat (q : Nat × Nat) : Option Cond := match q.1 with
  | 0 => (k2_sels lw_privs)[q.2]?
  | 1 => tables_1_1[q.2]?
  | 2 => tables_1_2[q.2]?
  | 3 => tables_1_3[q.2]?
  | 4 => tables_1_4[q.2]?
  | 5 => tables_1_5[q.2]?
  | 6 => tables_1_6[q.2]?
  | 7 => tables_1_7[q.2]?
  | 8 => tables_1_8[q.2]?
  | _ => none
theorem zat_mem {q : Nat × Nat} {w : Cond} (h : zat q = some w) : w ∈ lw_tbl := by
  obtain ⟨c, i⟩ := q
  match c, h with
  | 0, h => exact List.mem_append_left _ (List.mem_of_getElem? h)
  | 1, h => exact List.mem_append_right _ (List.mem_append_left _ (List.mem_of_getElem? h))
  | 2, h => exact List.mem_append_right _ (List.mem_append_right _ (List.mem_append_left _ (List.mem_of_getElem? h)))
  | 3, h => exact List.mem_append_right _ (List.mem_append_right _ (List.mem_append_right _ (List.mem_append_left _ (List.mem_of_getElem? h))))
  | 4, h => exact List.mem_append_right _ (List.mem_append_right _ (List.mem_append_right _ (List.mem_append_right _ (List.mem_append_left _ (List.mem_of_getElem? h)))))
  | 5, h => exact List.mem_append_right _ (List.mem_append_right _ (List.mem_append_right _ (List.mem_append_right _ (List.mem_append_right _ (List.mem_append_left _ (List.mem_of_getElem? h))))))
  | 6, h => exact List.mem_append_right _ (List.mem_append_right _ (List.mem_append_right _ (List.mem_append_right _ (List.mem_append_right _ (List.mem_append_right _ (List.mem_append_left _ (List.mem_of_getElem? h)))))))
  | 7, h => exact List.mem_append_right _ (List.mem_append_right _ (List.mem_append_right _ (List.mem_append_right _ (List.mem_append_right _ (List.mem_append_right _ (List.mem_append_right _ (List.mem_append_left _ (List.mem_of_getElem? h))))))))
  | 8, h => exact List.mem_append_right _ (List.mem_append_right _ (List.mem_append_right _ (List.mem_append_right _ (List.mem_append_right _ (List.mem_append_right _ (List.mem_append_right _ (List.mem_append_right _ (List.mem_of_getElem? h))))))))
  | c + 9, h => cases h
def zqF0_p : List (Nat × Nat) := [(1, 35), (1, 38), (1, 58), (1, 61), (1, 66), (1, 68), (1, 70), (1, 75), (1, 78), (1, 81), (1, 84), (1, 86), (1, 88), (1, 91), (1, 94), (1, 96), (1, 99), (1, 102), (1, 104), (1, 152), (1, 198), (2, 57), (2, 59), (2, 61), (2, 63), (2, 85), (2, 87), (2, 89), (2, 125), (2, 145), (2, 147), (2, 149), (2, 225), (2, 226), (2, 227), (2, 228), (2, 229), (2, 230), (2, 231), (2, 232), (2, 233), (2, 234), (2, 235), (2, 236), (2, 237), (3, 116), (3, 121), (3, 123)]
set_option maxRecDepth 1000000 in
set_option maxHeartbeats 4000000 in
theorem zqF0_e : (zFL 0).map (zwF 0) = zqF0_p.filterMap zat := rfl
set_option maxRecDepth 1000000 in
theorem zqF0_g : ((zFL 0).map (zwF 0)).all goodWord = true := rfl
theorem zqF0_in : ∀ w ∈ (zFL 0).map (zwF 0), w ∈ zwd := by
  intro w hw
  have g := List.all_eq_true.mp zqF0_g w hw
  rw [zqF0_e] at hw
  obtain ⟨i, -, hi⟩ := List.mem_filterMap.mp hw
  exact List.mem_filter.mpr ⟨zat_mem hi, g⟩
def zqM0_p : List (Nat × Nat) := [(1, 25), (1, 31), (1, 52), (1, 148), (1, 189), (1, 236), (2, 53), (2, 79), (2, 117), (2, 118), (2, 139), (2, 157), (2, 158), (2, 159), (3, 37), (3, 38), (3, 39), (3, 42), (3, 44), (0, 10), (3, 50), (3, 51), (3, 52), (3, 221), (3, 223), (0, 24), (3, 225), (3, 227), (0, 25), (3, 233), (3, 235), (0, 26), (3, 237), (2, 177), (2, 178), (4, 10), (4, 11), (4, 12), (4, 30), (4, 31), (4, 32), (4, 46), (4, 47), (4, 48), (4, 50), (4, 51), (4, 60), (4, 61), (4, 62), (4, 122), (4, 106), (4, 107), (4, 123), (4, 124), (4, 125), (4, 128), (4, 129), (4, 130), (4, 140), (4, 141), (4, 142), (4, 148), (4, 150), (0, 39), (4, 152), (4, 153), (4, 154), (4, 191), (4, 192), (4, 193), (4, 217), (4, 218), (4, 220), (4, 221), (4, 222), (4, 237), (4, 238), (4, 239), (5, 1), (5, 3), (0, 48), (5, 5), (5, 6), (5, 7), (5, 9), (5, 11), (0, 49), (5, 13), (5, 14), (5, 15), (5, 61), (5, 63), (0, 56), (5, 65), (5, 27), (5, 28), (5, 66), (5, 67), (5, 68), (5, 70), (5, 71), (5, 72), (5, 89), (2, 162), (2, 163), (5, 90), (5, 92), (0, 57), (5, 94), (5, 95), (5, 96), (5, 103), (5, 104), (5, 105), (5, 111), (5, 112), (5, 118), (5, 119), (5, 120), (5, 126), (5, 127), (5, 128)]
set_option maxRecDepth 1000000 in
set_option maxHeartbeats 4000000 in
theorem zqM0_e : (zML 0).flatMap (zwM 0) = zqM0_p.filterMap zat := rfl
set_option maxRecDepth 1000000 in
theorem zqM0_g : ((zML 0).flatMap (zwM 0)).all goodWord = true := rfl
theorem zqM0_in : ∀ w ∈ (zML 0).flatMap (zwM 0), w ∈ zwd := by
  intro w hw
  have g := List.all_eq_true.mp zqM0_g w hw
  rw [zqM0_e] at hw
  obtain ⟨i, -, hi⟩ := List.mem_filterMap.mp hw
  exact List.mem_filter.mpr ⟨zat_mem hi, g⟩
def zqK0_p : List (Nat × Nat) := []
set_option maxRecDepth 1000000 in
set_option maxHeartbeats 4000000 in
theorem zqK0_e : (zCK 0).map (zwK 0) = zqK0_p.filterMap zat := rfl
set_option maxRecDepth 1000000 in
theorem zqK0_g : ((zCK 0).map (zwK 0)).all goodWord = true := rfl
theorem zqK0_in : ∀ w ∈ (zCK 0).map (zwK 0), w ∈ zwd := by
  intro w hw
  have g := List.all_eq_true.mp zqK0_g w hw
  rw [zqK0_e] at hw
  obtain ⟨i, -, hi⟩ := List.mem_filterMap.mp hw
  exact List.mem_filter.mpr ⟨zat_mem hi, g⟩
def zqC0_p : List (Nat × Nat) := [(1, 28), (1, 49), (1, 143), (1, 145), (1, 186), (1, 233), (2, 50), (2, 76), (2, 115), (2, 135)]
set_option maxRecDepth 1000000 in
set_option maxHeartbeats 4000000 in
theorem zqC0_e : (zCL 0).map (zwC 0) = zqC0_p.filterMap zat := rfl
set_option maxRecDepth 1000000 in
theorem zqC0_g : ((zCL 0).map (zwC 0)).all goodWord = true := rfl
theorem zqC0_in : ∀ w ∈ (zCL 0).map (zwC 0), w ∈ zwd := by
  intro w hw
  have g := List.all_eq_true.mp zqC0_g w hw
  rw [zqC0_e] at hw
  obtain ⟨i, -, hi⟩ := List.mem_filterMap.mp hw
  exact List.mem_filter.mpr ⟨zat_mem hi, g⟩
def zqF1_p : List (Nat × Nat) := [(1, 34), (1, 39)]
set_option maxRecDepth 1000000 in
set_option maxHeartbeats 4000000 in
theorem zqF1_e : (zFL 1).map (zwF 1) = zqF1_p.filterMap zat := rfl
set_option maxRecDepth 1000000 in
theorem zqF1_g : ((zFL 1).map (zwF 1)).all goodWord = true := rfl
theorem zqF1_in : ∀ w ∈ (zFL 1).map (zwF 1), w ∈ zwd := by
  intro w hw
  have g := List.all_eq_true.mp zqF1_g w hw
  rw [zqF1_e] at hw
  obtain ⟨i, -, hi⟩ := List.mem_filterMap.mp hw
  exact List.mem_filter.mpr ⟨zat_mem hi, g⟩
def zqM1_p : List (Nat × Nat) := [(1, 33), (2, 165), (2, 222), (2, 177), (2, 178), (2, 201), (2, 204), (5, 98), (4, 19), (4, 20)]
set_option maxRecDepth 1000000 in
set_option maxHeartbeats 4000000 in
theorem zqM1_e : (zML 1).flatMap (zwM 1) = zqM1_p.filterMap zat := rfl
set_option maxRecDepth 1000000 in
theorem zqM1_g : ((zML 1).flatMap (zwM 1)).all goodWord = true := rfl
theorem zqM1_in : ∀ w ∈ (zML 1).flatMap (zwM 1), w ∈ zwd := by
  intro w hw
  have g := List.all_eq_true.mp zqM1_g w hw
  rw [zqM1_e] at hw
  obtain ⟨i, -, hi⟩ := List.mem_filterMap.mp hw
  exact List.mem_filter.mpr ⟨zat_mem hi, g⟩
def zqK1_p : List (Nat × Nat) := []
set_option maxRecDepth 1000000 in
set_option maxHeartbeats 4000000 in
theorem zqK1_e : (zCK 1).map (zwK 1) = zqK1_p.filterMap zat := rfl
set_option maxRecDepth 1000000 in
theorem zqK1_g : ((zCK 1).map (zwK 1)).all goodWord = true := rfl
theorem zqK1_in : ∀ w ∈ (zCK 1).map (zwK 1), w ∈ zwd := by
  intro w hw
  have g := List.all_eq_true.mp zqK1_g w hw
  rw [zqK1_e] at hw
  obtain ⟨i, -, hi⟩ := List.mem_filterMap.mp hw
  exact List.mem_filter.mpr ⟨zat_mem hi, g⟩
def zqC1_p : List (Nat × Nat) := []
set_option maxRecDepth 1000000 in
set_option maxHeartbeats 4000000 in
theorem zqC1_e : (zCL 1).map (zwC 1) = zqC1_p.filterMap zat := rfl
set_option maxRecDepth 1000000 in
theorem zqC1_g : ((zCL 1).map (zwC 1)).all goodWord = true := rfl
theorem zqC1_in : ∀ w ∈ (zCL 1).map (zwC 1), w ∈ zwd := by
  intro w hw
  have g := List.all_eq_true.mp zqC1_g w hw
  rw [zqC1_e] at hw
  obtain ⟨i, -, hi⟩ := List.mem_filterMap.mp hw
  exact List.mem_filter.mpr ⟨zat_mem hi, g⟩
def zqF2_p : List (Nat × Nat) := [(1, 36), (1, 40), (1, 57), (1, 60), (1, 64), (1, 67), (1, 69), (1, 73), (1, 76), (1, 79), (1, 83), (1, 85), (1, 87), (1, 89), (1, 92), (1, 95), (1, 98), (1, 100), (1, 103), (1, 105), (3, 65), (3, 109), (3, 113)]
set_option maxRecDepth 1000000 in
set_option maxHeartbeats 4000000 in
theorem zqF2_e : (zFL 2).map (zwF 2) = zqF2_p.filterMap zat := rfl
set_option maxRecDepth 1000000 in
theorem zqF2_g : ((zFL 2).map (zwF 2)).all goodWord = true := rfl
theorem zqF2_in : ∀ w ∈ (zFL 2).map (zwF 2), w ∈ zwd := by
  intro w hw
  have g := List.all_eq_true.mp zqF2_g w hw
  rw [zqF2_e] at hw
  obtain ⟨i, -, hi⟩ := List.mem_filterMap.mp hw
  exact List.mem_filter.mpr ⟨zat_mem hi, g⟩
def zqM2_p : List (Nat × Nat) := [(1, 54), (1, 31), (2, 161), (2, 162), (2, 163), (2, 168), (2, 170), (0, 0), (2, 172), (2, 174), (0, 1), (2, 176), (2, 177), (2, 178), (2, 180), (2, 182), (0, 2), (2, 184), (2, 186), (0, 3), (2, 188), (2, 190), (0, 4), (2, 192), (2, 194), (0, 5), (2, 196), (2, 198), (0, 6), (2, 201), (2, 204), (2, 206), (2, 208), (0, 7), (2, 210), (2, 212), (0, 8), (2, 214), (2, 216), (0, 9), (2, 218), (2, 219), (2, 220), (4, 14), (4, 15), (4, 16), (4, 18), (4, 19), (4, 20), (5, 130)]
set_option maxRecDepth 1000000 in
set_option maxHeartbeats 4000000 in
theorem zqM2_e : (zML 2).flatMap (zwM 2) = zqM2_p.filterMap zat := rfl
set_option maxRecDepth 1000000 in
theorem zqM2_g : ((zML 2).flatMap (zwM 2)).all goodWord = true := rfl
theorem zqM2_in : ∀ w ∈ (zML 2).flatMap (zwM 2), w ∈ zwd := by
  intro w hw
  have g := List.all_eq_true.mp zqM2_g w hw
  rw [zqM2_e] at hw
  obtain ⟨i, -, hi⟩ := List.mem_filterMap.mp hw
  exact List.mem_filter.mpr ⟨zat_mem hi, g⟩
def zqK2_p : List (Nat × Nat) := []
set_option maxRecDepth 1000000 in
set_option maxHeartbeats 4000000 in
theorem zqK2_e : (zCK 2).map (zwK 2) = zqK2_p.filterMap zat := rfl
set_option maxRecDepth 1000000 in
theorem zqK2_g : ((zCK 2).map (zwK 2)).all goodWord = true := rfl
theorem zqK2_in : ∀ w ∈ (zCK 2).map (zwK 2), w ∈ zwd := by
  intro w hw
  have g := List.all_eq_true.mp zqK2_g w hw
  rw [zqK2_e] at hw
  obtain ⟨i, -, hi⟩ := List.mem_filterMap.mp hw
  exact List.mem_filter.mpr ⟨zat_mem hi, g⟩
def zqC2_p : List (Nat × Nat) := [(1, 55)]
set_option maxRecDepth 1000000 in
set_option maxHeartbeats 4000000 in
theorem zqC2_e : (zCL 2).map (zwC 2) = zqC2_p.filterMap zat := rfl
set_option maxRecDepth 1000000 in
theorem zqC2_g : ((zCL 2).map (zwC 2)).all goodWord = true := rfl
theorem zqC2_in : ∀ w ∈ (zCL 2).map (zwC 2), w ∈ zwd := by
  intro w hw
  have g := List.all_eq_true.mp zqC2_g w hw
  rw [zqC2_e] at hw
  obtain ⟨i, -, hi⟩ := List.mem_filterMap.mp hw
  exact List.mem_filter.mpr ⟨zat_mem hi, g⟩
def zqF3_p : List (Nat × Nat) := [(3, 62), (3, 66), (3, 71), (3, 76), (3, 80), (3, 85), (3, 88), (3, 91), (3, 95), (3, 99), (3, 101), (3, 106), (3, 110), (3, 118)]
set_option maxRecDepth 1000000 in
set_option maxHeartbeats 4000000 in
theorem zqF3_e : (zFL 3).map (zwF 3) = zqF3_p.filterMap zat := rfl
set_option maxRecDepth 1000000 in
theorem zqF3_g : ((zFL 3).map (zwF 3)).all goodWord = true := rfl
theorem zqF3_in : ∀ w ∈ (zFL 3).map (zwF 3), w ∈ zwd := by
  intro w hw
  have g := List.all_eq_true.mp zqF3_g w hw
  rw [zqF3_e] at hw
  obtain ⟨i, -, hi⟩ := List.mem_filterMap.mp hw
  exact List.mem_filter.mpr ⟨zat_mem hi, g⟩
def zqM3_p : List (Nat × Nat) := [(3, 59), (1, 31), (4, 177), (4, 178), (4, 179), (4, 181), (4, 19), (4, 20)]
set_option maxRecDepth 1000000 in
set_option maxHeartbeats 4000000 in
theorem zqM3_e : (zML 3).flatMap (zwM 3) = zqM3_p.filterMap zat := rfl
set_option maxRecDepth 1000000 in
theorem zqM3_g : ((zML 3).flatMap (zwM 3)).all goodWord = true := rfl
theorem zqM3_in : ∀ w ∈ (zML 3).flatMap (zwM 3), w ∈ zwd := by
  intro w hw
  have g := List.all_eq_true.mp zqM3_g w hw
  rw [zqM3_e] at hw
  obtain ⟨i, -, hi⟩ := List.mem_filterMap.mp hw
  exact List.mem_filter.mpr ⟨zat_mem hi, g⟩
def zqK3_p : List (Nat × Nat) := []
set_option maxRecDepth 1000000 in
set_option maxHeartbeats 4000000 in
theorem zqK3_e : (zCK 3).map (zwK 3) = zqK3_p.filterMap zat := rfl
set_option maxRecDepth 1000000 in
theorem zqK3_g : ((zCK 3).map (zwK 3)).all goodWord = true := rfl
theorem zqK3_in : ∀ w ∈ (zCK 3).map (zwK 3), w ∈ zwd := by
  intro w hw
  have g := List.all_eq_true.mp zqK3_g w hw
  rw [zqK3_e] at hw
  obtain ⟨i, -, hi⟩ := List.mem_filterMap.mp hw
  exact List.mem_filter.mpr ⟨zat_mem hi, g⟩
def zqC3_p : List (Nat × Nat) := [(3, 60)]
set_option maxRecDepth 1000000 in
set_option maxHeartbeats 4000000 in
theorem zqC3_e : (zCL 3).map (zwC 3) = zqC3_p.filterMap zat := rfl
set_option maxRecDepth 1000000 in
theorem zqC3_g : ((zCL 3).map (zwC 3)).all goodWord = true := rfl
theorem zqC3_in : ∀ w ∈ (zCL 3).map (zwC 3), w ∈ zwd := by
  intro w hw
  have g := List.all_eq_true.mp zqC3_g w hw
  rw [zqC3_e] at hw
  obtain ⟨i, -, hi⟩ := List.mem_filterMap.mp hw
  exact List.mem_filter.mpr ⟨zat_mem hi, g⟩
def zqF4_p : List (Nat × Nat) := [(1, 41), (1, 151), (1, 153), (1, 154), (1, 155), (1, 156), (1, 157), (1, 158), (1, 159), (1, 160), (1, 161), (1, 162), (3, 63), (3, 68), (3, 74), (3, 79), (3, 83), (3, 87), (3, 89), (3, 94), (3, 98), (3, 100), (3, 105), (3, 108), (3, 112), (3, 114), (3, 119), (3, 122)]
set_option maxRecDepth 1000000 in
set_option maxHeartbeats 4000000 in
theorem zqF4_e : (zFL 4).map (zwF 4) = zqF4_p.filterMap zat := rfl
set_option maxRecDepth 1000000 in
theorem zqF4_g : ((zFL 4).map (zwF 4)).all goodWord = true := rfl
theorem zqF4_in : ∀ w ∈ (zFL 4).map (zwF 4), w ∈ zwd := by
  intro w hw
  have g := List.all_eq_true.mp zqF4_g w hw
  rw [zqF4_e] at hw
  obtain ⟨i, -, hi⟩ := List.mem_filterMap.mp hw
  exact List.mem_filter.mpr ⟨zat_mem hi, g⟩
def zqM4_p : List (Nat × Nat) := [(1, 150), (3, 57), (3, 157), (2, 162), (2, 163), (3, 158), (3, 160), (0, 11), (3, 162), (3, 164), (0, 12), (3, 166), (2, 177), (2, 178), (3, 167), (3, 169), (0, 13), (3, 171), (3, 173), (0, 14), (3, 175), (3, 177), (0, 15), (3, 179), (3, 180), (2, 201), (2, 204), (3, 184), (3, 186), (0, 16), (3, 188), (3, 190), (0, 17), (3, 192), (3, 194), (0, 18), (3, 196), (3, 198), (0, 19), (3, 200), (2, 219), (2, 220), (3, 201), (3, 203), (0, 20), (3, 205), (3, 207), (0, 21), (3, 209), (3, 211), (0, 22), (3, 213), (3, 215), (0, 23)]
set_option maxRecDepth 1000000 in
set_option maxHeartbeats 4000000 in
theorem zqM4_e : (zML 4).flatMap (zwM 4) = zqM4_p.filterMap zat := rfl
set_option maxRecDepth 1000000 in
theorem zqM4_g : ((zML 4).flatMap (zwM 4)).all goodWord = true := rfl
theorem zqM4_in : ∀ w ∈ (zML 4).flatMap (zwM 4), w ∈ zwd := by
  intro w hw
  have g := List.all_eq_true.mp zqM4_g w hw
  rw [zqM4_e] at hw
  obtain ⟨i, -, hi⟩ := List.mem_filterMap.mp hw
  exact List.mem_filter.mpr ⟨zat_mem hi, g⟩
def zqK4_p : List (Nat × Nat) := []
set_option maxRecDepth 1000000 in
set_option maxHeartbeats 4000000 in
theorem zqK4_e : (zCK 4).map (zwK 4) = zqK4_p.filterMap zat := rfl
set_option maxRecDepth 1000000 in
theorem zqK4_g : ((zCK 4).map (zwK 4)).all goodWord = true := rfl
theorem zqK4_in : ∀ w ∈ (zCK 4).map (zwK 4), w ∈ zwd := by
  intro w hw
  have g := List.all_eq_true.mp zqK4_g w hw
  rw [zqK4_e] at hw
  obtain ⟨i, -, hi⟩ := List.mem_filterMap.mp hw
  exact List.mem_filter.mpr ⟨zat_mem hi, g⟩
def zqC4_p : List (Nat × Nat) := [(3, 54)]
set_option maxRecDepth 1000000 in
set_option maxHeartbeats 4000000 in
theorem zqC4_e : (zCL 4).map (zwC 4) = zqC4_p.filterMap zat := rfl
set_option maxRecDepth 1000000 in
theorem zqC4_g : ((zCL 4).map (zwC 4)).all goodWord = true := rfl
theorem zqC4_in : ∀ w ∈ (zCL 4).map (zwC 4), w ∈ zwd := by
  intro w hw
  have g := List.all_eq_true.mp zqC4_g w hw
  rw [zqC4_e] at hw
  obtain ⟨i, -, hi⟩ := List.mem_filterMap.mp hw
  exact List.mem_filter.mpr ⟨zat_mem hi, g⟩
def zqF5_p : List (Nat × Nat) := [(1, 62), (1, 71), (1, 82), (1, 192), (1, 194), (1, 196), (1, 199), (1, 200), (1, 201), (1, 202), (1, 203), (1, 204), (1, 205), (1, 206), (1, 207), (3, 69), (3, 75), (3, 78), (3, 81), (3, 86), (3, 93), (3, 97), (3, 103)]
set_option maxRecDepth 1000000 in
set_option maxHeartbeats 4000000 in
theorem zqF5_e : (zFL 5).map (zwF 5) = zqF5_p.filterMap zat := rfl
set_option maxRecDepth 1000000 in
theorem zqF5_g : ((zFL 5).map (zwF 5)).all goodWord = true := rfl
theorem zqF5_in : ∀ w ∈ (zFL 5).map (zwF 5), w ∈ zwd := by
  intro w hw
  have g := List.all_eq_true.mp zqF5_g w hw
  rw [zqF5_e] at hw
  obtain ⟨i, -, hi⟩ := List.mem_filterMap.mp hw
  exact List.mem_filter.mpr ⟨zat_mem hi, g⟩
def zqM5_p : List (Nat × Nat) := [(1, 191), (4, 65), (4, 67), (0, 30), (4, 69), (4, 71), (0, 31), (4, 73), (4, 75), (0, 32), (4, 77), (4, 78), (4, 79), (4, 81), (4, 83), (0, 33), (4, 85), (4, 86), (4, 87), (4, 89), (4, 91), (0, 34), (4, 93), (4, 94), (4, 95), (4, 97), (4, 99), (0, 35), (4, 101), (4, 103), (0, 36), (4, 105), (4, 106), (4, 107), (4, 109), (4, 15), (4, 16), (4, 110), (4, 112), (0, 37), (4, 114), (4, 116), (0, 38), (4, 127), (4, 61), (4, 62)]
set_option maxRecDepth 1000000 in
set_option maxHeartbeats 4000000 in
theorem zqM5_e : (zML 5).flatMap (zwM 5) = zqM5_p.filterMap zat := rfl
set_option maxRecDepth 1000000 in
theorem zqM5_g : ((zML 5).flatMap (zwM 5)).all goodWord = true := rfl
theorem zqM5_in : ∀ w ∈ (zML 5).flatMap (zwM 5), w ∈ zwd := by
  intro w hw
  have g := List.all_eq_true.mp zqM5_g w hw
  rw [zqM5_e] at hw
  obtain ⟨i, -, hi⟩ := List.mem_filterMap.mp hw
  exact List.mem_filter.mpr ⟨zat_mem hi, g⟩
def zqK5_p : List (Nat × Nat) := [(4, 64)]
set_option maxRecDepth 1000000 in
set_option maxHeartbeats 4000000 in
theorem zqK5_e : (zCK 5).map (zwK 5) = zqK5_p.filterMap zat := rfl
set_option maxRecDepth 1000000 in
theorem zqK5_g : ((zCK 5).map (zwK 5)).all goodWord = true := rfl
theorem zqK5_in : ∀ w ∈ (zCK 5).map (zwK 5), w ∈ zwd := by
  intro w hw
  have g := List.all_eq_true.mp zqK5_g w hw
  rw [zqK5_e] at hw
  obtain ⟨i, -, hi⟩ := List.mem_filterMap.mp hw
  exact List.mem_filter.mpr ⟨zat_mem hi, g⟩
def zqC5_p : List (Nat × Nat) := []
set_option maxRecDepth 1000000 in
set_option maxHeartbeats 4000000 in
theorem zqC5_e : (zCL 5).map (zwC 5) = zqC5_p.filterMap zat := rfl
set_option maxRecDepth 1000000 in
theorem zqC5_g : ((zCL 5).map (zwC 5)).all goodWord = true := rfl
theorem zqC5_in : ∀ w ∈ (zCL 5).map (zwC 5), w ∈ zwd := by
  intro w hw
  have g := List.all_eq_true.mp zqC5_g w hw
  rw [zqC5_e] at hw
  obtain ⟨i, -, hi⟩ := List.mem_filterMap.mp hw
  exact List.mem_filter.mpr ⟨zat_mem hi, g⟩
def zqF6_p : List (Nat × Nat) := [(1, 63), (1, 72), (2, 0), (2, 1), (2, 2), (2, 3), (2, 4), (2, 5), (2, 6), (2, 7), (2, 8), (2, 9), (2, 10), (2, 11), (2, 12), (2, 13), (2, 14), (2, 15), (3, 67), (3, 72), (3, 77), (3, 84), (3, 90), (3, 92), (3, 96), (3, 102), (3, 117)]
set_option maxRecDepth 1000000 in
set_option maxHeartbeats 4000000 in
theorem zqF6_e : (zFL 6).map (zwF 6) = zqF6_p.filterMap zat := rfl
set_option maxRecDepth 1000000 in
theorem zqF6_g : ((zFL 6).map (zwF 6)).all goodWord = true := rfl
theorem zqF6_in : ∀ w ∈ (zFL 6).map (zwF 6), w ∈ zwd := by
  intro w hw
  have g := List.all_eq_true.mp zqF6_g w hw
  rw [zqF6_e] at hw
  obtain ⟨i, -, hi⟩ := List.mem_filterMap.mp hw
  exact List.mem_filter.mpr ⟨zat_mem hi, g⟩
def zqM6_p : List (Nat × Nat) := [(1, 238), (4, 34), (4, 36), (0, 27), (4, 38), (4, 40), (0, 28), (4, 42), (4, 44), (0, 29), (4, 156), (4, 158), (0, 40), (4, 160), (4, 31), (4, 32), (4, 161), (4, 163), (0, 41), (4, 165), (4, 167), (0, 42), (4, 169), (4, 170), (4, 171), (4, 173), (4, 174), (4, 175), (4, 182), (4, 178), (4, 179), (4, 183), (4, 185), (0, 43), (4, 195), (4, 197), (0, 44), (4, 199), (4, 201), (0, 45), (4, 203), (4, 204), (4, 205), (4, 207), (4, 94), (4, 95), (4, 208), (4, 209), (4, 211), (4, 11), (4, 12), (4, 212), (4, 61), (4, 62)]
set_option maxRecDepth 1000000 in
set_option maxHeartbeats 4000000 in
theorem zqM6_e : (zML 6).flatMap (zwM 6) = zqM6_p.filterMap zat := rfl
set_option maxRecDepth 1000000 in
theorem zqM6_g : ((zML 6).flatMap (zwM 6)).all goodWord = true := rfl
theorem zqM6_in : ∀ w ∈ (zML 6).flatMap (zwM 6), w ∈ zwd := by
  intro w hw
  have g := List.all_eq_true.mp zqM6_g w hw
  rw [zqM6_e] at hw
  obtain ⟨i, -, hi⟩ := List.mem_filterMap.mp hw
  exact List.mem_filter.mpr ⟨zat_mem hi, g⟩
def zqK6_p : List (Nat × Nat) := []
set_option maxRecDepth 1000000 in
set_option maxHeartbeats 4000000 in
theorem zqK6_e : (zCK 6).map (zwK 6) = zqK6_p.filterMap zat := rfl
set_option maxRecDepth 1000000 in
theorem zqK6_g : ((zCK 6).map (zwK 6)).all goodWord = true := rfl
theorem zqK6_in : ∀ w ∈ (zCK 6).map (zwK 6), w ∈ zwd := by
  intro w hw
  have g := List.all_eq_true.mp zqK6_g w hw
  rw [zqK6_e] at hw
  obtain ⟨i, -, hi⟩ := List.mem_filterMap.mp hw
  exact List.mem_filter.mpr ⟨zat_mem hi, g⟩
def zqC6_p : List (Nat × Nat) := [(1, 239)]
set_option maxRecDepth 1000000 in
set_option maxHeartbeats 4000000 in
theorem zqC6_e : (zCL 6).map (zwC 6) = zqC6_p.filterMap zat := rfl
set_option maxRecDepth 1000000 in
theorem zqC6_g : ((zCL 6).map (zwC 6)).all goodWord = true := rfl
theorem zqC6_in : ∀ w ∈ (zCL 6).map (zwC 6), w ∈ zwd := by
  intro w hw
  have g := List.all_eq_true.mp zqC6_g w hw
  rw [zqC6_e] at hw
  obtain ⟨i, -, hi⟩ := List.mem_filterMap.mp hw
  exact List.mem_filter.mpr ⟨zat_mem hi, g⟩
def zqF7_p : List (Nat × Nat) := [(1, 65), (1, 80), (1, 97), (2, 56), (2, 58), (2, 60), (2, 62), (2, 64)]
set_option maxRecDepth 1000000 in
set_option maxHeartbeats 4000000 in
theorem zqF7_e : (zFL 7).map (zwF 7) = zqF7_p.filterMap zat := rfl
set_option maxRecDepth 1000000 in
theorem zqF7_g : ((zFL 7).map (zwF 7)).all goodWord = true := rfl
theorem zqF7_in : ∀ w ∈ (zFL 7).map (zwF 7), w ∈ zwd := by
  intro w hw
  have g := List.all_eq_true.mp zqF7_g w hw
  rw [zqF7_e] at hw
  obtain ⟨i, -, hi⟩ := List.mem_filterMap.mp hw
  exact List.mem_filter.mpr ⟨zat_mem hi, g⟩
def zqM7_p : List (Nat × Nat) := [(2, 55), (4, 224), (4, 141), (4, 142), (4, 225), (4, 227), (0, 46), (4, 229), (4, 230), (4, 233), (4, 235), (0, 47)]
set_option maxRecDepth 1000000 in
set_option maxHeartbeats 4000000 in
theorem zqM7_e : (zML 7).flatMap (zwM 7) = zqM7_p.filterMap zat := rfl
set_option maxRecDepth 1000000 in
theorem zqM7_g : ((zML 7).flatMap (zwM 7)).all goodWord = true := rfl
theorem zqM7_in : ∀ w ∈ (zML 7).flatMap (zwM 7), w ∈ zwd := by
  intro w hw
  have g := List.all_eq_true.mp zqM7_g w hw
  rw [zqM7_e] at hw
  obtain ⟨i, -, hi⟩ := List.mem_filterMap.mp hw
  exact List.mem_filter.mpr ⟨zat_mem hi, g⟩
def zqK7_p : List (Nat × Nat) := []
set_option maxRecDepth 1000000 in
set_option maxHeartbeats 4000000 in
theorem zqK7_e : (zCK 7).map (zwK 7) = zqK7_p.filterMap zat := rfl
set_option maxRecDepth 1000000 in
theorem zqK7_g : ((zCK 7).map (zwK 7)).all goodWord = true := rfl
theorem zqK7_in : ∀ w ∈ (zCK 7).map (zwK 7), w ∈ zwd := by
  intro w hw
  have g := List.all_eq_true.mp zqK7_g w hw
  rw [zqK7_e] at hw
  obtain ⟨i, -, hi⟩ := List.mem_filterMap.mp hw
  exact List.mem_filter.mpr ⟨zat_mem hi, g⟩
def zqC7_p : List (Nat × Nat) := []
set_option maxRecDepth 1000000 in
set_option maxHeartbeats 4000000 in
theorem zqC7_e : (zCL 7).map (zwC 7) = zqC7_p.filterMap zat := rfl
set_option maxRecDepth 1000000 in
theorem zqC7_g : ((zCL 7).map (zwC 7)).all goodWord = true := rfl
theorem zqC7_in : ∀ w ∈ (zCL 7).map (zwC 7), w ∈ zwd := by
  intro w hw
  have g := List.all_eq_true.mp zqC7_g w hw
  rw [zqC7_e] at hw
  obtain ⟨i, -, hi⟩ := List.mem_filterMap.mp hw
  exact List.mem_filter.mpr ⟨zat_mem hi, g⟩
def zqF8_p : List (Nat × Nat) := [(1, 37), (1, 42), (1, 59), (1, 74), (1, 77), (1, 90), (1, 93), (1, 101), (1, 193), (1, 195), (1, 197), (2, 84), (2, 86), (2, 88), (2, 90), (2, 91), (2, 92), (2, 93), (2, 94), (2, 95), (3, 64), (3, 70), (3, 73), (3, 82), (3, 104), (3, 107), (3, 111), (3, 115), (3, 120)]
set_option maxRecDepth 1000000 in
set_option maxHeartbeats 4000000 in
theorem zqF8_e : (zFL 8).map (zwF 8) = zqF8_p.filterMap zat := rfl
set_option maxRecDepth 1000000 in
theorem zqF8_g : ((zFL 8).map (zwF 8)).all goodWord = true := rfl
theorem zqF8_in : ∀ w ∈ (zFL 8).map (zwF 8), w ∈ zwd := by
  intro w hw
  have g := List.all_eq_true.mp zqF8_g w hw
  rw [zqF8_e] at hw
  obtain ⟨i, -, hi⟩ := List.mem_filterMap.mp hw
  exact List.mem_filter.mpr ⟨zat_mem hi, g⟩
def zqM8_p : List (Nat × Nat) := [(2, 81), (1, 31), (5, 17), (5, 19), (0, 50), (5, 21), (4, 106), (4, 107), (5, 22), (5, 24), (0, 51), (5, 26), (5, 27), (5, 28), (5, 30), (2, 177), (2, 178), (5, 31), (5, 33), (0, 52), (2, 201), (2, 204), (5, 37), (5, 39), (0, 53), (5, 41), (5, 43), (0, 54), (5, 45), (5, 47), (0, 55), (5, 74)]
set_option maxRecDepth 1000000 in
set_option maxHeartbeats 4000000 in
theorem zqM8_e : (zML 8).flatMap (zwM 8) = zqM8_p.filterMap zat := rfl
set_option maxRecDepth 1000000 in
theorem zqM8_g : ((zML 8).flatMap (zwM 8)).all goodWord = true := rfl
theorem zqM8_in : ∀ w ∈ (zML 8).flatMap (zwM 8), w ∈ zwd := by
  intro w hw
  have g := List.all_eq_true.mp zqM8_g w hw
  rw [zqM8_e] at hw
  obtain ⟨i, -, hi⟩ := List.mem_filterMap.mp hw
  exact List.mem_filter.mpr ⟨zat_mem hi, g⟩
def zqK8_p : List (Nat × Nat) := []
set_option maxRecDepth 1000000 in
set_option maxHeartbeats 4000000 in
theorem zqK8_e : (zCK 8).map (zwK 8) = zqK8_p.filterMap zat := rfl
set_option maxRecDepth 1000000 in
theorem zqK8_g : ((zCK 8).map (zwK 8)).all goodWord = true := rfl
theorem zqK8_in : ∀ w ∈ (zCK 8).map (zwK 8), w ∈ zwd := by
  intro w hw
  have g := List.all_eq_true.mp zqK8_g w hw
  rw [zqK8_e] at hw
  obtain ⟨i, -, hi⟩ := List.mem_filterMap.mp hw
  exact List.mem_filter.mpr ⟨zat_mem hi, g⟩
def zqC8_p : List (Nat × Nat) := [(2, 82)]
set_option maxRecDepth 1000000 in
set_option maxHeartbeats 4000000 in
theorem zqC8_e : (zCL 8).map (zwC 8) = zqC8_p.filterMap zat := rfl
set_option maxRecDepth 1000000 in
theorem zqC8_g : ((zCL 8).map (zwC 8)).all goodWord = true := rfl
theorem zqC8_in : ∀ w ∈ (zCL 8).map (zwC 8), w ∈ zwd := by
  intro w hw
  have g := List.all_eq_true.mp zqC8_g w hw
  rw [zqC8_e] at hw
  obtain ⟨i, -, hi⟩ := List.mem_filterMap.mp hw
  exact List.mem_filter.mpr ⟨zat_mem hi, g⟩
def zqF9_p : List (Nat × Nat) := [(2, 124), (2, 126), (2, 127)]
set_option maxRecDepth 1000000 in
set_option maxHeartbeats 4000000 in
theorem zqF9_e : (zFL 9).map (zwF 9) = zqF9_p.filterMap zat := rfl
set_option maxRecDepth 1000000 in
theorem zqF9_g : ((zFL 9).map (zwF 9)).all goodWord = true := rfl
theorem zqF9_in : ∀ w ∈ (zFL 9).map (zwF 9), w ∈ zwd := by
  intro w hw
  have g := List.all_eq_true.mp zqF9_g w hw
  rw [zqF9_e] at hw
  obtain ⟨i, -, hi⟩ := List.mem_filterMap.mp hw
  exact List.mem_filter.mpr ⟨zat_mem hi, g⟩
def zqM9_p : List (Nat × Nat) := [(2, 120), (1, 31), (3, 41), (2, 162), (2, 163)]
set_option maxRecDepth 1000000 in
set_option maxHeartbeats 4000000 in
theorem zqM9_e : (zML 9).flatMap (zwM 9) = zqM9_p.filterMap zat := rfl
set_option maxRecDepth 1000000 in
theorem zqM9_g : ((zML 9).flatMap (zwM 9)).all goodWord = true := rfl
theorem zqM9_in : ∀ w ∈ (zML 9).flatMap (zwM 9), w ∈ zwd := by
  intro w hw
  have g := List.all_eq_true.mp zqM9_g w hw
  rw [zqM9_e] at hw
  obtain ⟨i, -, hi⟩ := List.mem_filterMap.mp hw
  exact List.mem_filter.mpr ⟨zat_mem hi, g⟩
def zqK9_p : List (Nat × Nat) := []
set_option maxRecDepth 1000000 in
set_option maxHeartbeats 4000000 in
theorem zqK9_e : (zCK 9).map (zwK 9) = zqK9_p.filterMap zat := rfl
set_option maxRecDepth 1000000 in
theorem zqK9_g : ((zCK 9).map (zwK 9)).all goodWord = true := rfl
theorem zqK9_in : ∀ w ∈ (zCK 9).map (zwK 9), w ∈ zwd := by
  intro w hw
  have g := List.all_eq_true.mp zqK9_g w hw
  rw [zqK9_e] at hw
  obtain ⟨i, -, hi⟩ := List.mem_filterMap.mp hw
  exact List.mem_filter.mpr ⟨zat_mem hi, g⟩
def zqC9_p : List (Nat × Nat) := [(2, 121)]
set_option maxRecDepth 1000000 in
set_option maxHeartbeats 4000000 in
theorem zqC9_e : (zCL 9).map (zwC 9) = zqC9_p.filterMap zat := rfl
set_option maxRecDepth 1000000 in
theorem zqC9_g : ((zCL 9).map (zwC 9)).all goodWord = true := rfl
theorem zqC9_in : ∀ w ∈ (zCL 9).map (zwC 9), w ∈ zwd := by
  intro w hw
  have g := List.all_eq_true.mp zqC9_g w hw
  rw [zqC9_e] at hw
  obtain ⟨i, -, hi⟩ := List.mem_filterMap.mp hw
  exact List.mem_filter.mpr ⟨zat_mem hi, g⟩
def zqF10_p : List (Nat × Nat) := [(2, 146), (2, 148)]
set_option maxRecDepth 1000000 in
set_option maxHeartbeats 4000000 in
theorem zqF10_e : (zFL 10).map (zwF 10) = zqF10_p.filterMap zat := rfl
set_option maxRecDepth 1000000 in
theorem zqF10_g : ((zFL 10).map (zwF 10)).all goodWord = true := rfl
theorem zqF10_in : ∀ w ∈ (zFL 10).map (zwF 10), w ∈ zwd := by
  intro w hw
  have g := List.all_eq_true.mp zqF10_g w hw
  rw [zqF10_e] at hw
  obtain ⟨i, -, hi⟩ := List.mem_filterMap.mp hw
  exact List.mem_filter.mpr ⟨zat_mem hi, g⟩
def zqM10_p : List (Nat × Nat) := [(2, 141), (1, 31)]
set_option maxRecDepth 1000000 in
set_option maxHeartbeats 4000000 in
theorem zqM10_e : (zML 10).flatMap (zwM 10) = zqM10_p.filterMap zat := rfl
set_option maxRecDepth 1000000 in
theorem zqM10_g : ((zML 10).flatMap (zwM 10)).all goodWord = true := rfl
theorem zqM10_in : ∀ w ∈ (zML 10).flatMap (zwM 10), w ∈ zwd := by
  intro w hw
  have g := List.all_eq_true.mp zqM10_g w hw
  rw [zqM10_e] at hw
  obtain ⟨i, -, hi⟩ := List.mem_filterMap.mp hw
  exact List.mem_filter.mpr ⟨zat_mem hi, g⟩
def zqK10_p : List (Nat × Nat) := []
set_option maxRecDepth 1000000 in
set_option maxHeartbeats 4000000 in
theorem zqK10_e : (zCK 10).map (zwK 10) = zqK10_p.filterMap zat := rfl
set_option maxRecDepth 1000000 in
theorem zqK10_g : ((zCK 10).map (zwK 10)).all goodWord = true := rfl
theorem zqK10_in : ∀ w ∈ (zCK 10).map (zwK 10), w ∈ zwd := by
  intro w hw
  have g := List.all_eq_true.mp zqK10_g w hw
  rw [zqK10_e] at hw
  obtain ⟨i, -, hi⟩ := List.mem_filterMap.mp hw
  exact List.mem_filter.mpr ⟨zat_mem hi, g⟩
def zqC10_p : List (Nat × Nat) := [(2, 142), (2, 144)]
set_option maxRecDepth 1000000 in
set_option maxHeartbeats 4000000 in
theorem zqC10_e : (zCL 10).map (zwC 10) = zqC10_p.filterMap zat := rfl
set_option maxRecDepth 1000000 in
theorem zqC10_g : ((zCL 10).map (zwC 10)).all goodWord = true := rfl
theorem zqC10_in : ∀ w ∈ (zCL 10).map (zwC 10), w ∈ zwd := by
  intro w hw
  have g := List.all_eq_true.mp zqC10_g w hw
  rw [zqC10_e] at hw
  obtain ⟨i, -, hi⟩ := List.mem_filterMap.mp hw
  exact List.mem_filter.mpr ⟨zat_mem hi, g⟩
def zqF11_p : List (Nat × Nat) := [(6, 19), (6, 20), (6, 21), (6, 22), (6, 23), (6, 24), (6, 25), (6, 26), (6, 27), (6, 28), (6, 29), (6, 30), (6, 31), (6, 32), (6, 33), (6, 34), (6, 35), (6, 36), (6, 37), (6, 38), (6, 39), (6, 40), (6, 41), (6, 42), (6, 43), (6, 44), (6, 45), (6, 46), (6, 47), (6, 48), (6, 49), (6, 50), (6, 51), (6, 52), (6, 53), (6, 54), (6, 55), (6, 56), (6, 57), (6, 58), (6, 59), (6, 60), (6, 61), (6, 62), (6, 63), (6, 64), (6, 65), (6, 66), (6, 67), (6, 68), (6, 69), (6, 70), (6, 71), (6, 72), (6, 73), (6, 74), (6, 75), (6, 76), (6, 77), (6, 78), (6, 79), (6, 80), (6, 81), (6, 82), (6, 83), (6, 84), (6, 85), (6, 86)]
set_option maxRecDepth 1000000 in
set_option maxHeartbeats 4000000 in
theorem zqF11_e : (zFL 11).map (zwF 11) = zqF11_p.filterMap zat := rfl
set_option maxRecDepth 1000000 in
theorem zqF11_g : ((zFL 11).map (zwF 11)).all goodWord = true := rfl
theorem zqF11_in : ∀ w ∈ (zFL 11).map (zwF 11), w ∈ zwd := by
  intro w hw
  have g := List.all_eq_true.mp zqF11_g w hw
  rw [zqF11_e] at hw
  obtain ⟨i, -, hi⟩ := List.mem_filterMap.mp hw
  exact List.mem_filter.mpr ⟨zat_mem hi, g⟩
def zqM11_p : List (Nat × Nat) := [(5, 207), (5, 208), (5, 210), (0, 59), (5, 212), (5, 214), (0, 60), (5, 216), (5, 218), (0, 61), (5, 220), (5, 222), (0, 62), (5, 224), (5, 226), (0, 63), (5, 230), (5, 231), (5, 233), (5, 235), (0, 64), (5, 237), (5, 239), (0, 65), (6, 1), (6, 3), (0, 66), (6, 5), (6, 6), (6, 10), (6, 11), (6, 15), (6, 17), (0, 67), (7, 1), (7, 3), (0, 68), (7, 5), (7, 7), (0, 69), (7, 9), (7, 11), (0, 70), (7, 17), (7, 19), (0, 71), (7, 21), (7, 23), (0, 72), (7, 25), (7, 27), (0, 73), (7, 29), (7, 31), (0, 74), (7, 33), (7, 35), (0, 75), (7, 37), (7, 39), (0, 76), (7, 41), (7, 43), (0, 77), (7, 45), (7, 47), (0, 78), (7, 51), (7, 53), (0, 79), (7, 55), (7, 57), (0, 80), (7, 59), (7, 61), (0, 81), (7, 63), (7, 65), (0, 82), (7, 68), (7, 69), (7, 71), (7, 73), (0, 83), (7, 75), (7, 77), (0, 84), (7, 79), (7, 81), (0, 85), (7, 83), (7, 85), (0, 86), (7, 87), (7, 89), (0, 87), (7, 91), (7, 93), (0, 88), (7, 95), (7, 97), (0, 89), (7, 99), (7, 101), (0, 90), (7, 103), (7, 105), (0, 91), (7, 107), (7, 109), (0, 92), (7, 111), (7, 113), (0, 93), (7, 115), (7, 117), (0, 94), (7, 119), (7, 121), (0, 95), (7, 123), (7, 125), (0, 96), (7, 127), (7, 129), (0, 97), (7, 135), (7, 137), (0, 98), (7, 143), (7, 145), (0, 99), (7, 147), (7, 149), (0, 100), (7, 151), (7, 153), (0, 101), (7, 155), (7, 157), (0, 102), (7, 159), (7, 161), (0, 103), (7, 163), (7, 165), (0, 104), (7, 167), (7, 169), (0, 105), (7, 171), (7, 173), (0, 106), (7, 175), (7, 177), (0, 107), (7, 179), (7, 181), (0, 108), (7, 183), (7, 185), (0, 109), (7, 187), (7, 189), (0, 110), (7, 196), (7, 198), (0, 111), (7, 200), (7, 202), (0, 112), (7, 212), (7, 214), (0, 113), (8, 5), (8, 7), (0, 114), (8, 9), (8, 11), (0, 115), (8, 21), (8, 23), (0, 116), (8, 25), (8, 27), (0, 117), (8, 33), (8, 34), (8, 36), (8, 38), (0, 118), (8, 40), (8, 42), (0, 119), (8, 44), (8, 46), (0, 120), (8, 48), (8, 50), (0, 121), (8, 52), (8, 54), (0, 122), (8, 56), (8, 58), (0, 123), (8, 61), (8, 63), (0, 124), (8, 65), (8, 67), (0, 125), (8, 69), (8, 71), (0, 126), (8, 73), (8, 75), (0, 127), (8, 77), (8, 79), (0, 128), (8, 81), (8, 83), (0, 129), (8, 93), (8, 95), (0, 130), (8, 97), (8, 99), (0, 131), (8, 105), (8, 107), (0, 132), (8, 109), (8, 111), (0, 133), (8, 113), (8, 114), (8, 116), (8, 118), (0, 134), (8, 129), (8, 131), (0, 135), (8, 133), (8, 135), (0, 136), (8, 141), (8, 143), (0, 137), (8, 157), (8, 159), (0, 138), (8, 165), (8, 167), (0, 139)]
set_option maxRecDepth 1000000 in
set_option maxHeartbeats 4000000 in
theorem zqM11_e : (zML 11).flatMap (zwM 11) = zqM11_p.filterMap zat := rfl
set_option maxRecDepth 1000000 in
theorem zqM11_g : ((zML 11).flatMap (zwM 11)).all goodWord = true := rfl
theorem zqM11_in : ∀ w ∈ (zML 11).flatMap (zwM 11), w ∈ zwd := by
  intro w hw
  have g := List.all_eq_true.mp zqM11_g w hw
  rw [zqM11_e] at hw
  obtain ⟨i, -, hi⟩ := List.mem_filterMap.mp hw
  exact List.mem_filter.mpr ⟨zat_mem hi, g⟩
def zqK11_p : List (Nat × Nat) := [(5, 228), (5, 229), (6, 8), (6, 9), (6, 13), (6, 14), (7, 49), (7, 50), (7, 67), (7, 195), (7, 228), (8, 60), (8, 128)]
set_option maxRecDepth 1000000 in
set_option maxHeartbeats 4000000 in
theorem zqK11_e : (zCK 11).map (zwK 11) = zqK11_p.filterMap zat := rfl
set_option maxRecDepth 1000000 in
theorem zqK11_g : ((zCK 11).map (zwK 11)).all goodWord = true := rfl
theorem zqK11_in : ∀ w ∈ (zCK 11).map (zwK 11), w ∈ zwd := by
  intro w hw
  have g := List.all_eq_true.mp zqK11_g w hw
  rw [zqK11_e] at hw
  obtain ⟨i, -, hi⟩ := List.mem_filterMap.mp hw
  exact List.mem_filter.mpr ⟨zat_mem hi, g⟩
def zqC11_p : List (Nat × Nat) := []
set_option maxRecDepth 1000000 in
set_option maxHeartbeats 4000000 in
theorem zqC11_e : (zCL 11).map (zwC 11) = zqC11_p.filterMap zat := rfl
set_option maxRecDepth 1000000 in
theorem zqC11_g : ((zCL 11).map (zwC 11)).all goodWord = true := rfl
theorem zqC11_in : ∀ w ∈ (zCL 11).map (zwC 11), w ∈ zwd := by
  intro w hw
  have g := List.all_eq_true.mp zqC11_g w hw
  rw [zqC11_e] at hw
  obtain ⟨i, -, hi⟩ := List.mem_filterMap.mp hw
  exact List.mem_filter.mpr ⟨zat_mem hi, g⟩
def zqF12_p : List (Nat × Nat) := []
set_option maxRecDepth 1000000 in
set_option maxHeartbeats 4000000 in
theorem zqF12_e : (zFL 12).map (zwF 12) = zqF12_p.filterMap zat := rfl
set_option maxRecDepth 1000000 in
theorem zqF12_g : ((zFL 12).map (zwF 12)).all goodWord = true := rfl
theorem zqF12_in : ∀ w ∈ (zFL 12).map (zwF 12), w ∈ zwd := by
  intro w hw
  have g := List.all_eq_true.mp zqF12_g w hw
  rw [zqF12_e] at hw
  obtain ⟨i, -, hi⟩ := List.mem_filterMap.mp hw
  exact List.mem_filter.mpr ⟨zat_mem hi, g⟩
def zqM12_p : List (Nat × Nat) := [(1, 22), (1, 23), (3, 25), (3, 26), (3, 27), (3, 29), (3, 30), (3, 31), (3, 33), (3, 34), (3, 35), (3, 46), (3, 47), (3, 48), (3, 217), (3, 218), (3, 219), (3, 229), (3, 230), (3, 231), (3, 238), (3, 239), (4, 0), (4, 2), (4, 3), (4, 4), (4, 6), (4, 7), (4, 8), (4, 22), (4, 23), (4, 24), (4, 26), (4, 27), (4, 28), (4, 56), (4, 57), (4, 58), (4, 118), (4, 119), (4, 120), (4, 132), (4, 133), (4, 134), (4, 136), (4, 137), (4, 138), (4, 144), (4, 145), (4, 146), (4, 187), (4, 188), (4, 189), (4, 213), (4, 214), (4, 215), (5, 49), (5, 50), (5, 51), (5, 53), (5, 54), (5, 55), (5, 57), (5, 58), (5, 59), (5, 77), (5, 78), (5, 79), (5, 81), (5, 82), (5, 83), (5, 85), (5, 86), (5, 87), (5, 99), (5, 100), (5, 101), (5, 107), (5, 108), (5, 109), (5, 114), (5, 115), (5, 116), (5, 122), (5, 123), (5, 124), (5, 137), (5, 138), (5, 139), (5, 204), (5, 205), (6, 225), (6, 226), (6, 227), (6, 229), (6, 230), (6, 231), (6, 233), (6, 234), (6, 235), (6, 237), (6, 238), (6, 239), (7, 13), (7, 14), (7, 15), (7, 131), (7, 132), (7, 133), (7, 139), (7, 140), (7, 141), (7, 191), (7, 192), (7, 193), (7, 204), (7, 205), (7, 206), (7, 208), (7, 209), (7, 210), (7, 216), (7, 217), (7, 218), (7, 220), (7, 221), (7, 222), (7, 224), (7, 225), (7, 226), (7, 229), (7, 230), (7, 231), (7, 233), (7, 234), (7, 235), (7, 237), (7, 238), (7, 239), (8, 1), (8, 2), (8, 3), (8, 13), (8, 14), (8, 15), (8, 17), (8, 18), (8, 19), (8, 29), (8, 30), (8, 31), (8, 85), (8, 86), (8, 87), (8, 89), (8, 90), (8, 91), (8, 101), (8, 102), (8, 103), (8, 120), (8, 121), (8, 122), (8, 124), (8, 125), (8, 126), (8, 137), (8, 138), (8, 139), (8, 145), (8, 146), (8, 147), (8, 149), (8, 150), (8, 151), (8, 153), (8, 154), (8, 155), (8, 161), (8, 162), (8, 163)]
set_option maxRecDepth 1000000 in
set_option maxHeartbeats 4000000 in
theorem zqM12_e : (zML 12).flatMap (zwM 12) = zqM12_p.filterMap zat := rfl
set_option maxRecDepth 1000000 in
theorem zqM12_g : ((zML 12).flatMap (zwM 12)).all goodWord = true := rfl
theorem zqM12_in : ∀ w ∈ (zML 12).flatMap (zwM 12), w ∈ zwd := by
  intro w hw
  have g := List.all_eq_true.mp zqM12_g w hw
  rw [zqM12_e] at hw
  obtain ⟨i, -, hi⟩ := List.mem_filterMap.mp hw
  exact List.mem_filter.mpr ⟨zat_mem hi, g⟩
def zqK12_p : List (Nat × Nat) := []
set_option maxRecDepth 1000000 in
set_option maxHeartbeats 4000000 in
theorem zqK12_e : (zCK 12).map (zwK 12) = zqK12_p.filterMap zat := rfl
set_option maxRecDepth 1000000 in
theorem zqK12_g : ((zCK 12).map (zwK 12)).all goodWord = true := rfl
theorem zqK12_in : ∀ w ∈ (zCK 12).map (zwK 12), w ∈ zwd := by
  intro w hw
  have g := List.all_eq_true.mp zqK12_g w hw
  rw [zqK12_e] at hw
  obtain ⟨i, -, hi⟩ := List.mem_filterMap.mp hw
  exact List.mem_filter.mpr ⟨zat_mem hi, g⟩
def zqC12_p : List (Nat × Nat) := [(1, 20), (5, 202)]
set_option maxRecDepth 1000000 in
set_option maxHeartbeats 4000000 in
theorem zqC12_e : (zCL 12).map (zwC 12) = zqC12_p.filterMap zat := rfl
set_option maxRecDepth 1000000 in
theorem zqC12_g : ((zCL 12).map (zwC 12)).all goodWord = true := rfl
theorem zqC12_in : ∀ w ∈ (zCL 12).map (zwC 12), w ∈ zwd := by
  intro w hw
  have g := List.all_eq_true.mp zqC12_g w hw
  rw [zqC12_e] at hw
  obtain ⟨i, -, hi⟩ := List.mem_filterMap.mp hw
  exact List.mem_filter.mpr ⟨zat_mem hi, g⟩
def zqF13_p : List (Nat × Nat) := []
set_option maxRecDepth 1000000 in
set_option maxHeartbeats 4000000 in
theorem zqF13_e : (zFL 13).map (zwF 13) = zqF13_p.filterMap zat := rfl
set_option maxRecDepth 1000000 in
theorem zqF13_g : ((zFL 13).map (zwF 13)).all goodWord = true := rfl
theorem zqF13_in : ∀ w ∈ (zFL 13).map (zwF 13), w ∈ zwd := by
  intro w hw
  have g := List.all_eq_true.mp zqF13_g w hw
  rw [zqF13_e] at hw
  obtain ⟨i, -, hi⟩ := List.mem_filterMap.mp hw
  exact List.mem_filter.mpr ⟨zat_mem hi, g⟩
def zqM13_p : List (Nat × Nat) := []
set_option maxRecDepth 1000000 in
set_option maxHeartbeats 4000000 in
theorem zqM13_e : (zML 13).flatMap (zwM 13) = zqM13_p.filterMap zat := rfl
set_option maxRecDepth 1000000 in
theorem zqM13_g : ((zML 13).flatMap (zwM 13)).all goodWord = true := rfl
theorem zqM13_in : ∀ w ∈ (zML 13).flatMap (zwM 13), w ∈ zwd := by
  intro w hw
  have g := List.all_eq_true.mp zqM13_g w hw
  rw [zqM13_e] at hw
  obtain ⟨i, -, hi⟩ := List.mem_filterMap.mp hw
  exact List.mem_filter.mpr ⟨zat_mem hi, g⟩
def zqK13_p : List (Nat × Nat) := [(4, 53), (4, 54), (4, 55), (4, 232)]
set_option maxRecDepth 1000000 in
set_option maxHeartbeats 4000000 in
theorem zqK13_e : (zCK 13).map (zwK 13) = zqK13_p.filterMap zat := rfl
set_option maxRecDepth 1000000 in
theorem zqK13_g : ((zCK 13).map (zwK 13)).all goodWord = true := rfl
theorem zqK13_in : ∀ w ∈ (zCK 13).map (zwK 13), w ∈ zwd := by
  intro w hw
  have g := List.all_eq_true.mp zqK13_g w hw
  rw [zqK13_e] at hw
  obtain ⟨i, -, hi⟩ := List.mem_filterMap.mp hw
  exact List.mem_filter.mpr ⟨zat_mem hi, g⟩
def zqC13_p : List (Nat × Nat) := []
set_option maxRecDepth 1000000 in
set_option maxHeartbeats 4000000 in
theorem zqC13_e : (zCL 13).map (zwC 13) = zqC13_p.filterMap zat := rfl
set_option maxRecDepth 1000000 in
theorem zqC13_g : ((zCL 13).map (zwC 13)).all goodWord = true := rfl
theorem zqC13_in : ∀ w ∈ (zCL 13).map (zwC 13), w ∈ zwd := by
  intro w hw
  have g := List.all_eq_true.mp zqC13_g w hw
  rw [zqC13_e] at hw
  obtain ⟨i, -, hi⟩ := List.mem_filterMap.mp hw
  exact List.mem_filter.mpr ⟨zat_mem hi, g⟩
def zcal0 : List Nat := [0, 1, 2, 3, 4, 5, 6, 7, 8, 9, 10, 11, 12, 13, 14, 15, 16, 17, 18, 19]
def zqY0_p : List (Nat × Nat) := [(1, 24), (1, 1), (3, 28), (1, 1), (3, 32), (1, 1), (3, 36), (1, 1), (3, 49), (1, 1), (3, 220), (1, 1), (5, 140), (1, 1), (3, 232), (1, 1), (4, 1), (1, 1), (4, 5), (1, 1), (4, 9), (1, 1), (4, 25), (1, 1), (4, 29), (1, 1), (4, 59), (1, 1), (4, 121), (1, 1), (4, 135), (1, 1), (4, 139), (1, 1), (4, 147), (1, 1), (4, 190), (1, 1), (4, 216), (1, 1)]
set_option maxRecDepth 1000000 in
set_option maxHeartbeats 4000000 in
theorem zqY0_e : zcal0.flatMap zwY = zqY0_p.filterMap zat := rfl
set_option maxRecDepth 1000000 in
theorem zqY0_g : (zcal0.flatMap zwY).all goodWord = true := rfl
theorem zqY0_in : ∀ w ∈ zcal0.flatMap zwY, w ∈ zwd := by
  intro w hw
  have g := List.all_eq_true.mp zqY0_g w hw
  rw [zqY0_e] at hw
  obtain ⟨i, -, hi⟩ := List.mem_filterMap.mp hw
  exact List.mem_filter.mpr ⟨zat_mem hi, g⟩
def zcal1 : List Nat := [20, 21, 22, 23, 24, 25, 26, 27, 28, 29, 30, 31, 32, 33, 34, 35, 36, 37, 38, 39]
def zqY1_p : List (Nat × Nat) := [(5, 52), (1, 1), (5, 56), (1, 1), (5, 60), (1, 1), (5, 80), (1, 1), (5, 84), (1, 1), (5, 88), (1, 1), (5, 102), (1, 1), (5, 110), (1, 1), (5, 117), (1, 1), (5, 125), (1, 1), (3, 236), (1, 1), (3, 224), (1, 1), (4, 219), (1, 1), (2, 202), (1, 1), (2, 205), (1, 1), (3, 228), (1, 1), (4, 151), (1, 1), (3, 45), (1, 1), (5, 4), (1, 1), (5, 12), (1, 1)]
set_option maxRecDepth 1000000 in
set_option maxHeartbeats 4000000 in
theorem zqY1_e : zcal1.flatMap zwY = zqY1_p.filterMap zat := rfl
set_option maxRecDepth 1000000 in
theorem zqY1_g : (zcal1.flatMap zwY).all goodWord = true := rfl
theorem zqY1_in : ∀ w ∈ zcal1.flatMap zwY, w ∈ zwd := by
  intro w hw
  have g := List.all_eq_true.mp zqY1_g w hw
  rw [zqY1_e] at hw
  obtain ⟨i, -, hi⟩ := List.mem_filterMap.mp hw
  exact List.mem_filter.mpr ⟨zat_mem hi, g⟩
def zcal2 : List Nat := [40, 41, 42, 43, 44, 45, 46, 47, 48, 49, 50, 51, 52, 53, 54, 55, 56, 57, 58, 59]
def zqY2_p : List (Nat × Nat) := [(5, 64), (1, 1), (5, 93), (1, 1), (5, 113), (1, 1), (1, 32), (1, 2), (2, 179), (1, 2), (2, 164), (1, 2), (5, 97), (1, 2), (4, 21), (1, 2), (2, 221), (1, 2), (1, 53), (1, 3), (2, 160), (1, 3), (2, 171), (1, 3), (2, 191), (1, 3), (2, 199), (1, 3), (2, 209), (1, 3), (2, 213), (1, 3), (2, 217), (1, 3), (2, 195), (1, 3), (2, 175), (1, 3), (2, 183), (1, 3)]
set_option maxRecDepth 1000000 in
set_option maxHeartbeats 4000000 in
theorem zqY2_e : zcal2.flatMap zwY = zqY2_p.filterMap zat := rfl
set_option maxRecDepth 1000000 in
theorem zqY2_g : (zcal2.flatMap zwY).all goodWord = true := rfl
theorem zqY2_in : ∀ w ∈ zcal2.flatMap zwY, w ∈ zwd := by
  intro w hw
  have g := List.all_eq_true.mp zqY2_g w hw
  rw [zqY2_e] at hw
  obtain ⟨i, -, hi⟩ := List.mem_filterMap.mp hw
  exact List.mem_filter.mpr ⟨zat_mem hi, g⟩
def zcal3 : List Nat := [60, 61, 62, 63, 64, 65, 66, 67, 68, 69, 70, 71, 72, 73, 74, 75, 76, 77, 78, 79]
def zqY3_p : List (Nat × Nat) := [(2, 187), (1, 3), (4, 13), (1, 3), (4, 17), (1, 3), (4, 96), (1, 3), (4, 206), (1, 3), (5, 129), (1, 3), (3, 58), (1, 13), (4, 49), (1, 13), (4, 108), (1, 13), (4, 80), (1, 13), (4, 88), (1, 13), (4, 180), (1, 13), (4, 176), (1, 13), (4, 172), (1, 13), (1, 149), (1, 4), (3, 53), (1, 4), (3, 216), (1, 4), (3, 161), (1, 4), (3, 165), (1, 4), (3, 170), (1, 4)]
set_option maxRecDepth 1000000 in
set_option maxHeartbeats 4000000 in
theorem zqY3_e : zcal3.flatMap zwY = zqY3_p.filterMap zat := rfl
set_option maxRecDepth 1000000 in
theorem zqY3_g : (zcal3.flatMap zwY).all goodWord = true := rfl
theorem zqY3_in : ∀ w ∈ zcal3.flatMap zwY, w ∈ zwd := by
  intro w hw
  have g := List.all_eq_true.mp zqY3_g w hw
  rw [zqY3_e] at hw
  obtain ⟨i, -, hi⟩ := List.mem_filterMap.mp hw
  exact List.mem_filter.mpr ⟨zat_mem hi, g⟩
def zcal4 : List Nat := [80, 81, 82, 83, 84, 85, 86, 87, 88, 89, 90, 91, 92, 93, 94, 95, 96, 97, 98, 99]
def zqY4_p : List (Nat × Nat) := [(3, 178), (1, 4), (3, 181), (1, 4), (3, 187), (1, 4), (3, 191), (1, 4), (3, 195), (1, 4), (3, 199), (1, 4), (3, 204), (1, 4), (3, 208), (1, 4), (3, 212), (1, 4), (3, 174), (1, 4), (1, 190), (1, 5), (4, 126), (1, 5), (4, 143), (1, 5), (4, 131), (1, 5), (4, 63), (1, 5), (4, 113), (1, 5), (4, 117), (1, 5), (4, 72), (1, 5), (4, 68), (1, 5), (4, 100), (1, 5)]
set_option maxRecDepth 1000000 in
set_option maxHeartbeats 4000000 in
theorem zqY4_e : zcal4.flatMap zwY = zqY4_p.filterMap zat := rfl
set_option maxRecDepth 1000000 in
theorem zqY4_g : (zcal4.flatMap zwY).all goodWord = true := rfl
theorem zqY4_in : ∀ w ∈ zcal4.flatMap zwY, w ∈ zwd := by
  intro w hw
  have g := List.all_eq_true.mp zqY4_g w hw
  rw [zqY4_e] at hw
  obtain ⟨i, -, hi⟩ := List.mem_filterMap.mp hw
  exact List.mem_filter.mpr ⟨zat_mem hi, g⟩
def zcal5 : List Nat := [100, 101, 102, 103, 104, 105, 106, 107, 108, 109, 110, 111, 112, 113, 114, 115, 116, 117, 118, 119]
def zqY5_p : List (Nat × Nat) := [(4, 84), (1, 5), (4, 76), (1, 5), (4, 92), (1, 5), (4, 104), (1, 5), (1, 237), (1, 6), (4, 33), (1, 6), (4, 45), (1, 6), (4, 41), (1, 6), (4, 155), (1, 6), (4, 159), (1, 6), (4, 164), (1, 6), (4, 168), (1, 6), (4, 186), (1, 6), (4, 194), (1, 6), (4, 198), (1, 6), (4, 210), (1, 6), (4, 202), (1, 6), (2, 54), (1, 7), (4, 223), (1, 7), (4, 228), (1, 7)]
set_option maxRecDepth 1000000 in
set_option maxHeartbeats 4000000 in
theorem zqY5_e : zcal5.flatMap zwY = zqY5_p.filterMap zat := rfl
set_option maxRecDepth 1000000 in
theorem zqY5_g : (zcal5.flatMap zwY).all goodWord = true := rfl
theorem zqY5_in : ∀ w ∈ zcal5.flatMap zwY, w ∈ zwd := by
  intro w hw
  have g := List.all_eq_true.mp zqY5_g w hw
  rw [zqY5_e] at hw
  obtain ⟨i, -, hi⟩ := List.mem_filterMap.mp hw
  exact List.mem_filter.mpr ⟨zat_mem hi, g⟩
def zcal6 : List Nat := [120, 121, 122, 123, 124, 125, 126, 127, 128, 129, 130, 131, 132, 133, 134, 135, 136, 137, 138, 139]
def zqY6_p : List (Nat × Nat) := [(4, 236), (1, 7), (5, 0), (1, 7), (2, 80), (1, 8), (5, 8), (1, 8), (5, 73), (1, 8), (5, 69), (1, 8), (5, 16), (1, 8), (5, 20), (1, 8), (5, 25), (1, 8), (5, 44), (1, 8), (5, 48), (1, 8), (5, 29), (1, 8), (5, 34), (1, 8), (5, 40), (1, 8), (2, 119), (1, 9), (3, 40), (1, 9), (5, 106), (1, 9), (5, 121), (1, 9), (2, 140), (1, 10), (5, 206), (1, 12)]
set_option maxRecDepth 1000000 in
set_option maxHeartbeats 4000000 in
theorem zqY6_e : zcal6.flatMap zwY = zqY6_p.filterMap zat := rfl
set_option maxRecDepth 1000000 in
theorem zqY6_g : (zcal6.flatMap zwY).all goodWord = true := rfl
theorem zqY6_in : ∀ w ∈ zcal6.flatMap zwY, w ∈ zwd := by
  intro w hw
  have g := List.all_eq_true.mp zqY6_g w hw
  rw [zqY6_e] at hw
  obtain ⟨i, -, hi⟩ := List.mem_filterMap.mp hw
  exact List.mem_filter.mpr ⟨zat_mem hi, g⟩
def zcal7 : List Nat := [140, 141, 142, 143, 144, 145, 146, 147, 148, 149, 150, 151, 152, 153, 154, 155, 156, 157, 158, 159]
def zqY7_p : List (Nat × Nat) := [(6, 228), (1, 12), (5, 232), (1, 12), (7, 70), (1, 12), (7, 66), (1, 12), (6, 7), (1, 12), (6, 12), (1, 12), (6, 232), (1, 12), (6, 236), (1, 12), (5, 236), (1, 12), (5, 223), (1, 12), (5, 227), (1, 12), (5, 219), (1, 12), (6, 18), (1, 12), (6, 4), (1, 12), (6, 0), (1, 12), (5, 215), (1, 12), (5, 211), (1, 12), (7, 146), (1, 12), (7, 162), (1, 12), (7, 8), (1, 12)]
set_option maxRecDepth 1000000 in
set_option maxHeartbeats 4000000 in
theorem zqY7_e : zcal7.flatMap zwY = zqY7_p.filterMap zat := rfl
set_option maxRecDepth 1000000 in
theorem zqY7_g : (zcal7.flatMap zwY).all goodWord = true := rfl
theorem zqY7_in : ∀ w ∈ zcal7.flatMap zwY, w ∈ zwd := by
  intro w hw
  have g := List.all_eq_true.mp zqY7_g w hw
  rw [zqY7_e] at hw
  obtain ⟨i, -, hi⟩ := List.mem_filterMap.mp hw
  exact List.mem_filter.mpr ⟨zat_mem hi, g⟩
def zcal8 : List Nat := [160, 161, 162, 163, 164, 165, 166, 167, 168, 169, 170, 171, 172, 173, 174, 175, 176, 177, 178, 179]
def zqY8_p : List (Nat × Nat) := [(7, 12), (1, 12), (7, 4), (1, 12), (7, 0), (1, 12), (7, 28), (1, 12), (7, 32), (1, 12), (7, 62), (1, 12), (7, 48), (1, 12), (7, 54), (1, 12), (7, 58), (1, 12), (7, 44), (1, 12), (7, 40), (1, 12), (7, 36), (1, 12), (7, 24), (1, 12), (7, 20), (1, 12), (7, 74), (1, 12), (7, 16), (1, 12), (8, 160), (1, 12), (7, 138), (1, 12), (7, 134), (1, 12), (7, 86), (1, 12)]
set_option maxRecDepth 1000000 in
set_option maxHeartbeats 4000000 in
theorem zqY8_e : zcal8.flatMap zwY = zqY8_p.filterMap zat := rfl
set_option maxRecDepth 1000000 in
theorem zqY8_g : (zcal8.flatMap zwY).all goodWord = true := rfl
theorem zqY8_in : ∀ w ∈ zcal8.flatMap zwY, w ∈ zwd := by
  intro w hw
  have g := List.all_eq_true.mp zqY8_g w hw
  rw [zqY8_e] at hw
  obtain ⟨i, -, hi⟩ := List.mem_filterMap.mp hw
  exact List.mem_filter.mpr ⟨zat_mem hi, g⟩
def zcal9 : List Nat := [180, 181, 182, 183, 184, 185, 186, 187, 188, 189, 190, 191, 192, 193, 194, 195, 196, 197, 198, 199]
def zqY9_p : List (Nat × Nat) := [(7, 174), (1, 12), (7, 170), (1, 12), (7, 166), (1, 12), (7, 178), (1, 12), (7, 186), (1, 12), (7, 158), (1, 12), (7, 182), (1, 12), (7, 154), (1, 12), (7, 190), (1, 12), (7, 150), (1, 12), (7, 203), (1, 12), (7, 199), (1, 12), (7, 142), (1, 12), (7, 194), (1, 12), (7, 207), (1, 12), (7, 215), (1, 12), (7, 211), (1, 12), (7, 219), (1, 12), (7, 223), (1, 12), (7, 227), (1, 12)]
set_option maxRecDepth 1000000 in
set_option maxHeartbeats 4000000 in
theorem zqY9_e : zcal9.flatMap zwY = zqY9_p.filterMap zat := rfl
set_option maxRecDepth 1000000 in
theorem zqY9_g : (zcal9.flatMap zwY).all goodWord = true := rfl
theorem zqY9_in : ∀ w ∈ zcal9.flatMap zwY, w ∈ zwd := by
  intro w hw
  have g := List.all_eq_true.mp zqY9_g w hw
  rw [zqY9_e] at hw
  obtain ⟨i, -, hi⟩ := List.mem_filterMap.mp hw
  exact List.mem_filter.mpr ⟨zat_mem hi, g⟩
def zcal10 : List Nat := [200, 201, 202, 203, 204, 205, 206, 207, 208, 209, 210, 211, 212, 213, 214, 215, 216, 217, 218, 219]
def zqY10_p : List (Nat × Nat) := [(7, 232), (1, 12), (7, 236), (1, 12), (8, 0), (1, 12), (8, 8), (1, 12), (8, 12), (1, 12), (8, 4), (1, 12), (7, 98), (1, 12), (7, 94), (1, 12), (7, 102), (1, 12), (7, 90), (1, 12), (7, 82), (1, 12), (7, 118), (1, 12), (7, 130), (1, 12), (7, 126), (1, 12), (7, 114), (1, 12), (7, 122), (1, 12), (7, 110), (1, 12), (7, 106), (1, 12), (7, 78), (1, 12), (8, 16), (1, 12)]
set_option maxRecDepth 1000000 in
set_option maxHeartbeats 4000000 in
theorem zqY10_e : zcal10.flatMap zwY = zqY10_p.filterMap zat := rfl
set_option maxRecDepth 1000000 in
theorem zqY10_g : (zcal10.flatMap zwY).all goodWord = true := rfl
theorem zqY10_in : ∀ w ∈ zcal10.flatMap zwY, w ∈ zwd := by
  intro w hw
  have g := List.all_eq_true.mp zqY10_g w hw
  rw [zqY10_e] at hw
  obtain ⟨i, -, hi⟩ := List.mem_filterMap.mp hw
  exact List.mem_filter.mpr ⟨zat_mem hi, g⟩
def zcal11 : List Nat := [220, 221, 222, 223, 224, 225, 226, 227, 228, 229, 230, 231, 232, 233, 234, 235, 236, 237, 238, 239]
def zqY11_p : List (Nat × Nat) := [(8, 28), (1, 12), (8, 24), (1, 12), (8, 20), (1, 12), (8, 47), (1, 12), (8, 51), (1, 12), (8, 43), (1, 12), (8, 59), (1, 12), (8, 55), (1, 12), (8, 35), (1, 12), (8, 39), (1, 12), (8, 80), (1, 12), (8, 76), (1, 12), (8, 68), (1, 12), (8, 72), (1, 12), (8, 84), (1, 12), (8, 64), (1, 12), (8, 32), (1, 12), (8, 88), (1, 12), (8, 100), (1, 12), (8, 96), (1, 12)]
set_option maxRecDepth 1000000 in
set_option maxHeartbeats 4000000 in
theorem zqY11_e : zcal11.flatMap zwY = zqY11_p.filterMap zat := rfl
set_option maxRecDepth 1000000 in
theorem zqY11_g : (zcal11.flatMap zwY).all goodWord = true := rfl
theorem zqY11_in : ∀ w ∈ zcal11.flatMap zwY, w ∈ zwd := by
  intro w hw
  have g := List.all_eq_true.mp zqY11_g w hw
  rw [zqY11_e] at hw
  obtain ⟨i, -, hi⟩ := List.mem_filterMap.mp hw
  exact List.mem_filter.mpr ⟨zat_mem hi, g⟩
def zcal12 : List Nat := [240, 241, 242, 243, 244, 245, 246, 247, 248, 249, 250, 251, 252, 253, 254, 255, 256, 257, 258, 263]
def zqY12_p : List (Nat × Nat) := [(8, 92), (1, 12), (8, 115), (1, 12), (8, 112), (1, 12), (8, 108), (1, 12), (8, 119), (1, 12), (8, 104), (1, 12), (8, 123), (1, 12), (8, 144), (1, 12), (8, 136), (1, 12), (8, 132), (1, 12), (8, 127), (1, 12), (8, 140), (1, 12), (8, 148), (1, 12), (8, 152), (1, 12), (8, 156), (1, 12), (8, 168), (1, 12), (8, 164), (1, 12), (4, 231), (1, 18), (4, 52), (1, 18), (4, 37), (1, 6)]
set_option maxRecDepth 1000000 in
set_option maxHeartbeats 4000000 in
theorem zqY12_e : zcal12.flatMap zwY = zqY12_p.filterMap zat := rfl
set_option maxRecDepth 1000000 in
theorem zqY12_g : (zcal12.flatMap zwY).all goodWord = true := rfl
theorem zqY12_in : ∀ w ∈ zcal12.flatMap zwY, w ∈ zwd := by
  intro w hw
  have g := List.all_eq_true.mp zqY12_g w hw
  rw [zqY12_e] at hw
  obtain ⟨i, -, hi⟩ := List.mem_filterMap.mp hw
  exact List.mem_filter.mpr ⟨zat_mem hi, g⟩
def zqS_p : List (Nat × Nat) := [(1, 26), (1, 27), (2, 167), (2, 166), (1, 11), (5, 131), (5, 75), (1, 19), (5, 132), (5, 76), (1, 48), (2, 49), (6, 224), (8, 169)]
set_option maxRecDepth 1000000 in
set_option maxHeartbeats 4000000 in
theorem zqS_e : zwds = zqS_p.filterMap zat := rfl
set_option maxRecDepth 1000000 in
theorem zqS_g : (zwds).all goodWord = true := rfl
theorem zqS_in : ∀ w ∈ zwds, w ∈ zwd := by
  intro w hw
  have g := List.all_eq_true.mp zqS_g w hw
  rw [zqS_e] at hw
  obtain ⟨i, -, hi⟩ := List.mem_filterMap.mp hw
  exact List.mem_filter.mpr ⟨zat_mem hi, g⟩
theorem zFL_w : ∀ o q, q ∈ zFL o → zwF o q ∈ zwd := by
  intro o
  match o with
  | 0 => exact fun q h => zqF0_in _ (List.mem_map.mpr ⟨q, h, rfl⟩)
  | 1 => exact fun q h => zqF1_in _ (List.mem_map.mpr ⟨q, h, rfl⟩)
  | 2 => exact fun q h => zqF2_in _ (List.mem_map.mpr ⟨q, h, rfl⟩)
  | 3 => exact fun q h => zqF3_in _ (List.mem_map.mpr ⟨q, h, rfl⟩)
  | 4 => exact fun q h => zqF4_in _ (List.mem_map.mpr ⟨q, h, rfl⟩)
  | 5 => exact fun q h => zqF5_in _ (List.mem_map.mpr ⟨q, h, rfl⟩)
  | 6 => exact fun q h => zqF6_in _ (List.mem_map.mpr ⟨q, h, rfl⟩)
  | 7 => exact fun q h => zqF7_in _ (List.mem_map.mpr ⟨q, h, rfl⟩)
  | 8 => exact fun q h => zqF8_in _ (List.mem_map.mpr ⟨q, h, rfl⟩)
  | 9 => exact fun q h => zqF9_in _ (List.mem_map.mpr ⟨q, h, rfl⟩)
  | 10 => exact fun q h => zqF10_in _ (List.mem_map.mpr ⟨q, h, rfl⟩)
  | 11 => exact fun q h => zqF11_in _ (List.mem_map.mpr ⟨q, h, rfl⟩)
  | 12 => exact fun q h => zqF12_in _ (List.mem_map.mpr ⟨q, h, rfl⟩)
  | 13 => exact fun q h => zqF13_in _ (List.mem_map.mpr ⟨q, h, rfl⟩)
  | o + 14 => exact fun q h => absurd h List.not_mem_nil
theorem zML_w : ∀ o q, q ∈ zML o → ∀ w ∈ zwM o q, w ∈ zwd := by
  intro o
  match o with
  | 0 => exact fun q h => fun w hw => zqM0_in _ (List.mem_flatMap.mpr ⟨q, h, hw⟩)
  | 1 => exact fun q h => fun w hw => zqM1_in _ (List.mem_flatMap.mpr ⟨q, h, hw⟩)
  | 2 => exact fun q h => fun w hw => zqM2_in _ (List.mem_flatMap.mpr ⟨q, h, hw⟩)
  | 3 => exact fun q h => fun w hw => zqM3_in _ (List.mem_flatMap.mpr ⟨q, h, hw⟩)
  | 4 => exact fun q h => fun w hw => zqM4_in _ (List.mem_flatMap.mpr ⟨q, h, hw⟩)
  | 5 => exact fun q h => fun w hw => zqM5_in _ (List.mem_flatMap.mpr ⟨q, h, hw⟩)
  | 6 => exact fun q h => fun w hw => zqM6_in _ (List.mem_flatMap.mpr ⟨q, h, hw⟩)
  | 7 => exact fun q h => fun w hw => zqM7_in _ (List.mem_flatMap.mpr ⟨q, h, hw⟩)
  | 8 => exact fun q h => fun w hw => zqM8_in _ (List.mem_flatMap.mpr ⟨q, h, hw⟩)
  | 9 => exact fun q h => fun w hw => zqM9_in _ (List.mem_flatMap.mpr ⟨q, h, hw⟩)
  | 10 => exact fun q h => fun w hw => zqM10_in _ (List.mem_flatMap.mpr ⟨q, h, hw⟩)
  | 11 => exact fun q h => fun w hw => zqM11_in _ (List.mem_flatMap.mpr ⟨q, h, hw⟩)
  | 12 => exact fun q h => fun w hw => zqM12_in _ (List.mem_flatMap.mpr ⟨q, h, hw⟩)
  | 13 => exact fun q h => fun w hw => zqM13_in _ (List.mem_flatMap.mpr ⟨q, h, hw⟩)
  | o + 14 => exact fun q h => absurd h List.not_mem_nil
theorem zCK_w : ∀ o q, q ∈ zCK o → zwK o q ∈ zwd := by
  intro o
  match o with
  | 0 => exact fun q h => zqK0_in _ (List.mem_map.mpr ⟨q, h, rfl⟩)
  | 1 => exact fun q h => zqK1_in _ (List.mem_map.mpr ⟨q, h, rfl⟩)
  | 2 => exact fun q h => zqK2_in _ (List.mem_map.mpr ⟨q, h, rfl⟩)
  | 3 => exact fun q h => zqK3_in _ (List.mem_map.mpr ⟨q, h, rfl⟩)
  | 4 => exact fun q h => zqK4_in _ (List.mem_map.mpr ⟨q, h, rfl⟩)
  | 5 => exact fun q h => zqK5_in _ (List.mem_map.mpr ⟨q, h, rfl⟩)
  | 6 => exact fun q h => zqK6_in _ (List.mem_map.mpr ⟨q, h, rfl⟩)
  | 7 => exact fun q h => zqK7_in _ (List.mem_map.mpr ⟨q, h, rfl⟩)
  | 8 => exact fun q h => zqK8_in _ (List.mem_map.mpr ⟨q, h, rfl⟩)
  | 9 => exact fun q h => zqK9_in _ (List.mem_map.mpr ⟨q, h, rfl⟩)
  | 10 => exact fun q h => zqK10_in _ (List.mem_map.mpr ⟨q, h, rfl⟩)
  | 11 => exact fun q h => zqK11_in _ (List.mem_map.mpr ⟨q, h, rfl⟩)
  | 12 => exact fun q h => zqK12_in _ (List.mem_map.mpr ⟨q, h, rfl⟩)
  | 13 => exact fun q h => zqK13_in _ (List.mem_map.mpr ⟨q, h, rfl⟩)
  | o + 14 => exact fun q h => absurd h List.not_mem_nil
theorem zCL_w : ∀ o q, q ∈ zCL o → zwC o q ∈ zwd := by
  intro o
  match o with
  | 0 => exact fun q h => zqC0_in _ (List.mem_map.mpr ⟨q, h, rfl⟩)
  | 1 => exact fun q h => zqC1_in _ (List.mem_map.mpr ⟨q, h, rfl⟩)
  | 2 => exact fun q h => zqC2_in _ (List.mem_map.mpr ⟨q, h, rfl⟩)
  | 3 => exact fun q h => zqC3_in _ (List.mem_map.mpr ⟨q, h, rfl⟩)
  | 4 => exact fun q h => zqC4_in _ (List.mem_map.mpr ⟨q, h, rfl⟩)
  | 5 => exact fun q h => zqC5_in _ (List.mem_map.mpr ⟨q, h, rfl⟩)
  | 6 => exact fun q h => zqC6_in _ (List.mem_map.mpr ⟨q, h, rfl⟩)
  | 7 => exact fun q h => zqC7_in _ (List.mem_map.mpr ⟨q, h, rfl⟩)
  | 8 => exact fun q h => zqC8_in _ (List.mem_map.mpr ⟨q, h, rfl⟩)
  | 9 => exact fun q h => zqC9_in _ (List.mem_map.mpr ⟨q, h, rfl⟩)
  | 10 => exact fun q h => zqC10_in _ (List.mem_map.mpr ⟨q, h, rfl⟩)
  | 11 => exact fun q h => zqC11_in _ (List.mem_map.mpr ⟨q, h, rfl⟩)
  | 12 => exact fun q h => zqC12_in _ (List.mem_map.mpr ⟨q, h, rfl⟩)
  | 13 => exact fun q h => zqC13_in _ (List.mem_map.mpr ⟨q, h, rfl⟩)
  | o + 14 => exact fun q h => absurd h List.not_mem_nil
set_option maxRecDepth 100000 in
theorem zcal_e : zcal = zcal0 ++ zcal1 ++ zcal2 ++ zcal3 ++ zcal4 ++ zcal5 ++ zcal6 ++ zcal7 ++ zcal8 ++ zcal9 ++ zcal10 ++ zcal11 ++ zcal12 := by decide +kernel
theorem zMy_w : ∀ y ∈ zcal, ∀ w ∈ zwY y, w ∈ zwd := by
  intro y h w hw
  rw [zcal_e] at h
  simp only [List.mem_append] at h
  rcases h with (((((((((((h | h) | h) | h) | h) | h) | h) | h) | h) | h) | h) | h) | h
  · exact zqY0_in _ (List.mem_flatMap.mpr ⟨y, h, hw⟩)
  · exact zqY1_in _ (List.mem_flatMap.mpr ⟨y, h, hw⟩)
  · exact zqY2_in _ (List.mem_flatMap.mpr ⟨y, h, hw⟩)
  · exact zqY3_in _ (List.mem_flatMap.mpr ⟨y, h, hw⟩)
  · exact zqY4_in _ (List.mem_flatMap.mpr ⟨y, h, hw⟩)
  · exact zqY5_in _ (List.mem_flatMap.mpr ⟨y, h, hw⟩)
  · exact zqY6_in _ (List.mem_flatMap.mpr ⟨y, h, hw⟩)
  · exact zqY7_in _ (List.mem_flatMap.mpr ⟨y, h, hw⟩)
  · exact zqY8_in _ (List.mem_flatMap.mpr ⟨y, h, hw⟩)
  · exact zqY9_in _ (List.mem_flatMap.mpr ⟨y, h, hw⟩)
  · exact zqY10_in _ (List.mem_flatMap.mpr ⟨y, h, hw⟩)
  · exact zqY11_in _ (List.mem_flatMap.mpr ⟨y, h, hw⟩)
  · exact zqY12_in _ (List.mem_flatMap.mpr ⟨y, h, hw⟩)
/-- what is said of a method that may be called -/
def zMb (y : Nat) : Bool := decide ((zNm y).cls = zOwS (zow y)) && decide ((zNm y).cls ≠ "java/lang/invoke/MethodHandle") && decide ((zNm y).cls ≠ "java/lang/invoke/VarHandle") && decide ((parseMethodDescriptor (zNm y).desc).map (fun d => d.parameters.length) = some (zNp y)) && plainName (zNm y).cls
set_option maxRecDepth 100000 in
theorem zMb_ok : zcal.all zMb = true := by decide +kernel
/-- a class, a field of it; a method by its kind of call -/
def zFb (q : Nat × Nat × Nat) : Bool := Nat.blt q.2.1 12 && Nat.blt q.2.2 (zcr q.2.1).2.2
def zMLb (o : Nat) (q : Nat × Nat × Nat) : Bool := match q.2.2 with
  | 0 => zcal.elem q.2.1
  | 1 => zcal.elem q.2.1 && decide ((zNm q.2.1).name = "<init>")
  | 2 => zcal.elem q.2.1
  | 3 => zcal.elem q.2.1 && decide ((zNm q.2.1).name = "<init>") && decide (Cond.methodLinkNest (zOwS o) q.1 (zNm q.2.1) "SyntaxRules" ∈ zNst)
  | 4 => zcal.elem q.2.1 && decide (Cond.methodLinkNest (zOwS o) q.1 (zNm q.2.1) "SyntaxRules" ∈ zNst)
  | 10 => Nat.beq q.2.1 9999
  | 11 => Nat.beq q.2.1 9998
  | 12 => Nat.beq q.2.1 9996
  | 13 => Nat.beq q.2.1 9995
  | _ => false
set_option maxRecDepth 100000 in
theorem zFb_ok : (List.range 14).all (fun o => (zFL o).all zFb) = true := by decide +kernel
set_option maxRecDepth 100000 in
theorem zMLb_ok : (List.range 14).all (fun o => (zML o).all (zMLb o)) = true := by decide +kernel
set_option maxRecDepth 100000 in
theorem zCKb_ok : (List.range 14).all (fun o => (zCK o).all (fun q => Nat.ble q.2.1 2147483647)) = true := by decide +kernel
set_option maxRecDepth 100000 in
theorem zCLb_ok : (List.range 14).all (fun o => (zCL o).all (fun q => Nat.blt q.2 12)) = true := by decide +kernel
