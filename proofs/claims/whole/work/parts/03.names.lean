def z_W0 : List Cond := [.initialized "ViewRoundsLaw", .initialized "ViewRounds", .initialized "ViewRounds$Program", .initialized "ViewRounds$SignedRows", .initialized "java/lang/Math", .initialized "ViewRounds$Engine", .initialized "ViewRounds$Rule", .initialized "ViewRounds$Atom", .initialized "ViewRounds$Rows", .initialized "ViewRoundsModel", .initialized "ViewRounds$Reader", .classLink "ViewRoundsLaw" 7 "ViewRounds", .instantiable "ViewRounds" 13, .methodLink "ViewRoundsLaw" 9 ⟨"ViewRounds", "<init>", "()V"⟩, .instanceMethod ⟨"ViewRounds", "<init>", "()V"⟩, .code ⟨"ViewRounds", "<init>", "()V"⟩ prog_1_method_1_code 2 none, .methodLink "ViewRounds" 3 ⟨"java/lang/Object", "<init>", "()V"⟩, .instanceMethod ⟨"java/lang/Object", "<init>", "()V"⟩, .code ⟨"java/lang/Object", "<init>", "()V"⟩ object_method_1_code 1 none, .classLink "ViewRounds" 21 "ViewRounds$Program", .instantiable "ViewRounds$Program" 11, .instanceMethod ⟨"ViewRounds$Program", "<init>", "()V"⟩, .code ⟨"ViewRounds$Program", "<init>", "()V"⟩ prog_4_method_1_code 1 none, .methodLink "ViewRounds$Program" 3 ⟨"java/lang/Object", "<init>", "()V"⟩, .classLink "ViewRounds$Program" 9 "ViewRounds$Rule", .fieldLink "ViewRounds$Program" 11 "ViewRounds$Program" "rules" "[LViewRounds$Rule;", .fieldLink "ViewRounds$Engine" 89 "ViewRounds$Program" "rules" "[LViewRounds$Rule;", .fieldLink "ViewRounds" 176 "ViewRounds$Program" "rules" "[LViewRounds$Rule;", .fieldLink "ViewRounds$Engine" 76 "ViewRounds$Program" "ruleCount" "I", .fieldLink "ViewRounds$Reader" 60 "ViewRounds$Program" "ruleCount" "I", .fieldLink "ViewRounds" 93 "ViewRounds$Program" "ruleCount" "I", .fieldLink "ViewRounds$Program" 74 "ViewRounds$Program" "ruleCount" "I", .fieldLink "ViewRounds$Program" 17 "ViewRounds$Program" "names" "[I", .fieldLink "ViewRounds" 203 "ViewRounds$Program" "names" "[I", .fieldLink "ViewRounds$Program" 21 "ViewRounds$Program" "terms" "[I", .fieldLink "ViewRounds" 114 "ViewRounds$Program" "terms" "[I", .fieldLink "ViewRounds$Reader" 142 "ViewRounds$Program" "terms" "[I", .fieldLink "ViewRounds$Program" 24 "ViewRounds$Program" "layers" "[I", .fieldLink "ViewRounds$Engine" 112 "ViewRounds$Program" "layers" "[I", .fieldLink "ViewRounds" 117 "ViewRounds$Program" "layers" "[I"]
def z_W1 : List Cond := [.fieldLink "ViewRounds$Program" 27 "ViewRounds$Program" "reach" "[I", .fieldLink "ViewRounds" 120 "ViewRounds$Program" "reach" "[I", .fieldLink "ViewRounds$Program" 30 "ViewRounds$Program" "relations" "I", .fieldLink "ViewRounds$Engine" 48 "ViewRounds$Program" "relations" "I", .fieldLink "ViewRounds" 194 "ViewRounds$Program" "relations" "I", .fieldLink "ViewRounds$Engine" 59 "ViewRounds$Program" "topLayer" "I", .fieldLink "ViewRounds$Program" 89 "ViewRounds$Program" "topLayer" "I", .fieldLink "ViewRounds" 196 "ViewRounds$Program" "topLayer" "I", .fieldLink "ViewRounds$Program" 83 "ViewRounds$Program" "ring" "I", .fieldLink "ViewRounds" 200 "ViewRounds$Program" "ring" "I", .fieldLink "ViewRounds$Program" 38 "ViewRounds$Program" "views" "I", .fieldLink "ViewRounds$Program" 45 "ViewRounds$Program" "countedViews" "I", .laysFinal "ViewRounds$Program" "ViewRounds$Program" "rules" "[LViewRounds$Rule;", .lays "ViewRounds$Program" "ViewRounds$Program" "ruleCount" "I", .laysFinal "ViewRounds$Program" "ViewRounds$Program" "names" "[I", .laysFinal "ViewRounds$Program" "ViewRounds$Program" "terms" "[I", .laysFinal "ViewRounds$Program" "ViewRounds$Program" "layers" "[I", .laysFinal "ViewRounds$Program" "ViewRounds$Program" "reach" "[I", .lays "ViewRounds$Program" "ViewRounds$Program" "relations" "I", .lays "ViewRounds$Program" "ViewRounds$Program" "topLayer" "I", .lays "ViewRounds$Program" "ViewRounds$Program" "ring" "I", .lays "ViewRounds$Program" "ViewRounds$Program" "views" "I", .lays "ViewRounds$Program" "ViewRounds$Program" "countedViews" "I", .arrayClass .byte, .arrayClass .int, .classLink "ViewRounds" 28 "ViewRounds$Rows", .classLink "ViewRounds" 37 "ViewRounds$SignedRows", .instantiable "ViewRounds$SignedRows" 4, .methodLink "ViewRounds" 39 ⟨"ViewRounds$SignedRows", "<init>", "(I)V"⟩, .instanceMethod ⟨"ViewRounds$SignedRows", "<init>", "(I)V"⟩, .code ⟨"ViewRounds$SignedRows", "<init>", "(I)V"⟩ prog_8_method_1_code 3 none, .methodLink "ViewRounds$SignedRows" 1 ⟨"java/lang/Object", "<init>", "()V"⟩, .methodLink "ViewRounds$SignedRows" 7 ⟨"java/lang/Math", "max", "(II)I"⟩, .static ⟨"java/lang/Math", "max", "(II)I"⟩, .code ⟨"java/lang/Math", "max", "(II)I"⟩ prog_11_method_65_code 2 (some .int), .fieldLink "ViewRounds$SignedRows" 13 "ViewRounds$SignedRows" "relations" "[I", .fieldLink "ViewRounds" 143 "ViewRounds$SignedRows" "relations" "[I", .fieldLink "ViewRounds$SignedRows" 19 "ViewRounds$SignedRows" "keys" "[I", .fieldLink "ViewRounds" 149 "ViewRounds$SignedRows" "keys" "[I", .fieldLink "ViewRounds$SignedRows" 22 "ViewRounds$SignedRows" "signs" "[I"]
def z_W2 : List Cond := [.fieldLink "ViewRounds" 146 "ViewRounds$SignedRows" "signs" "[I", .fieldLink "ViewRounds$SignedRows" 25 "ViewRounds$SignedRows" "size" "I", .fieldLink "ViewRounds" 131 "ViewRounds$SignedRows" "size" "I", .laysFinal "ViewRounds$SignedRows" "ViewRounds$SignedRows" "relations" "[I", .laysFinal "ViewRounds$SignedRows" "ViewRounds$SignedRows" "keys" "[I", .laysFinal "ViewRounds$SignedRows" "ViewRounds$SignedRows" "signs" "[I", .lays "ViewRounds$SignedRows" "ViewRounds$SignedRows" "size" "I", .classLink "ViewRounds" 53 "ViewRounds$Engine", .instantiable "ViewRounds$Engine" 12, .instanceMethod ⟨"ViewRounds$Engine", "<init>", "()V"⟩, .code ⟨"ViewRounds$Engine", "<init>", "()V"⟩ prog_3_method_1_code 1 none, .methodLink "ViewRounds$Engine" 3 ⟨"java/lang/Object", "<init>", "()V"⟩, .classLink "ViewRounds$Engine" 24 "ViewRounds$Program", .classLink "ViewRounds$Engine" 31 "ViewRounds$Rule", .instantiable "ViewRounds$Rule" 7, .instanceMethod ⟨"ViewRounds$Rule", "<init>", "()V"⟩, .code ⟨"ViewRounds$Rule", "<init>", "()V"⟩ prog_7_method_1_code 1 none, .methodLink "ViewRounds$Rule" 3 ⟨"java/lang/Object", "<init>", "()V"⟩, .classLink "ViewRounds$Rule" 9 "ViewRounds$Atom", .instantiable "ViewRounds$Atom" 6, .instanceMethod ⟨"ViewRounds$Atom", "<init>", "()V"⟩, .code ⟨"ViewRounds$Atom", "<init>", "()V"⟩ prog_2_method_1_code 1 none, .methodLink "ViewRounds$Atom" 3 ⟨"java/lang/Object", "<init>", "()V"⟩, .fieldLink "ViewRounds$Atom" 9 "ViewRounds$Atom" "terms" "[I", .fieldLink "ViewRounds$Engine" 145 "ViewRounds$Atom" "terms" "[I", .fieldLink "ViewRounds$Atom" 15 "ViewRounds$Atom" "size" "I", .fieldLink "ViewRounds$Reader" 146 "ViewRounds$Atom" "size" "I", .fieldLink "ViewRounds$Engine" 144 "ViewRounds$Atom" "size" "I", .fieldLink "ViewRounds$Rule" 29 "ViewRounds$Atom" "kind" "I", .fieldLink "ViewRounds$Reader" 112 "ViewRounds$Atom" "kind" "I", .fieldLink "ViewRounds$Engine" 129 "ViewRounds$Atom" "kind" "I", .fieldLink "ViewRounds$Program" 102 "ViewRounds$Atom" "kind" "I", .fieldLink "ViewRounds$Engine" 100 "ViewRounds$Atom" "relation" "I", .fieldLink "ViewRounds$Program" 63 "ViewRounds$Atom" "relation" "I", .fieldLink "ViewRounds$Reader" 135 "ViewRounds$Atom" "relation" "I", .fieldLink "ViewRounds$Reader" 125 "ViewRounds$Atom" "operator" "I", .fieldLink "ViewRounds$Engine" 199 "ViewRounds$Atom" "operator" "I", .fieldLink "ViewRounds$Atom" 19 "ViewRounds$Atom" "letters" "I", .fieldLink "ViewRounds$Rule" 42 "ViewRounds$Atom" "letters" "I", .fieldLink "ViewRounds$Engine" 164 "ViewRounds$Atom" "letters" "I"]
def z_W3 : List Cond := [.laysFinal "ViewRounds$Atom" "ViewRounds$Atom" "terms" "[I", .lays "ViewRounds$Atom" "ViewRounds$Atom" "size" "I", .lays "ViewRounds$Atom" "ViewRounds$Atom" "kind" "I", .lays "ViewRounds$Atom" "ViewRounds$Atom" "relation" "I", .lays "ViewRounds$Atom" "ViewRounds$Atom" "operator" "I", .lays "ViewRounds$Atom" "ViewRounds$Atom" "letters" "I", .fieldLink "ViewRounds$Rule" 12 "ViewRounds$Rule" "head" "LViewRounds$Atom;", .fieldLink "ViewRounds$Reader" 63 "ViewRounds$Rule" "head" "LViewRounds$Atom;", .fieldLink "ViewRounds$Engine" 96 "ViewRounds$Rule" "head" "LViewRounds$Atom;", .fieldLink "ViewRounds$Program" 59 "ViewRounds$Rule" "head" "LViewRounds$Atom;", .fieldLink "ViewRounds$Rule" 18 "ViewRounds$Rule" "body" "[LViewRounds$Atom;", .fieldLink "ViewRounds$Engine" 125 "ViewRounds$Rule" "body" "[LViewRounds$Atom;", .fieldLink "ViewRounds$Program" 98 "ViewRounds$Rule" "body" "[LViewRounds$Atom;", .fieldLink "ViewRounds$Rule" 22 "ViewRounds$Rule" "size" "I", .fieldLink "ViewRounds$Reader" 106 "ViewRounds$Rule" "size" "I", .fieldLink "ViewRounds$Program" 56 "ViewRounds$Rule" "size" "I", .fieldLink "ViewRounds$Engine" 124 "ViewRounds$Rule" "size" "I", .fieldLink "ViewRounds$Rule" 26 "ViewRounds$Rule" "positive" "I", .fieldLink "ViewRounds$Reader" 103 "ViewRounds$Rule" "positive" "I", .fieldLink "ViewRounds$Program" 52 "ViewRounds$Rule" "counted" "Z", .fieldLink "ViewRounds$Engine" 118 "ViewRounds$Rule" "counted" "Z", .fieldLink "ViewRounds$Reader" 138 "ViewRounds$Rule" "counted" "Z", .fieldLink "ViewRounds$Rule" 32 "ViewRounds$Rule" "letters" "I", .fieldLink "ViewRounds$Engine" 191 "ViewRounds$Rule" "letters" "I", .fieldLink "ViewRounds$Rule" 39 "ViewRounds$Rule" "variables" "I", .fieldLink "ViewRounds" 180 "ViewRounds$Rule" "variables" "I", .laysFinal "ViewRounds$Rule" "ViewRounds$Rule" "head" "LViewRounds$Atom;", .laysFinal "ViewRounds$Rule" "ViewRounds$Rule" "body" "[LViewRounds$Atom;", .lays "ViewRounds$Rule" "ViewRounds$Rule" "size" "I", .lays "ViewRounds$Rule" "ViewRounds$Rule" "positive" "I", .lays "ViewRounds$Rule" "ViewRounds$Rule" "counted" "Z", .lays "ViewRounds$Rule" "ViewRounds$Rule" "letters" "I", .lays "ViewRounds$Rule" "ViewRounds$Rule" "variables" "I", .classLink "ViewRounds$Engine" 38 "ViewRounds$Rows", .fieldLink "ViewRounds$Engine" 9 "ViewRounds$Engine" "least" "[I", .fieldLink "ViewRounds" 185 "ViewRounds$Engine" "least" "[I", .fieldLink "ViewRounds$Engine" 15 "ViewRounds$Engine" "values" "[I", .fieldLink "ViewRounds$Engine" 18 "ViewRounds$Engine" "queuedViews" "[I", .fieldLink "ViewRounds$Engine" 21 "ViewRounds$Engine" "queuedKeys" "[I", .fieldLink "ViewRounds$Engine" 66 "ViewRounds$Engine" "queued" "I"]
def z_W4 : List Cond := [.fieldLink "ViewRounds$Engine" 93 "ViewRounds$Engine" "known" "I", .fieldLink "ViewRounds$Engine" 86 "ViewRounds$Engine" "goal" "I", .fieldLink "ViewRounds$Engine" 83 "ViewRounds$Engine" "number" "I", .fieldLink "ViewRounds$Engine" 62 "ViewRounds$Engine" "full" "Z", .fieldLink "ViewRounds$Engine" 27 "ViewRounds$Engine" "program" "LViewRounds$Program;", .fieldLink "ViewRounds$Engine" 34 "ViewRounds$Engine" "rule" "LViewRounds$Rule;", .fieldLink "ViewRounds$Engine" 40 "ViewRounds$Engine" "rows" "[LViewRounds$Rows;", .laysFinal "ViewRounds$Engine" "ViewRounds$Engine" "least" "[I", .laysFinal "ViewRounds$Engine" "ViewRounds$Engine" "values" "[I", .laysFinal "ViewRounds$Engine" "ViewRounds$Engine" "queuedViews" "[I", .laysFinal "ViewRounds$Engine" "ViewRounds$Engine" "queuedKeys" "[I", .lays "ViewRounds$Engine" "ViewRounds$Engine" "queued" "I", .lays "ViewRounds$Engine" "ViewRounds$Engine" "known" "I", .lays "ViewRounds$Engine" "ViewRounds$Engine" "goal" "I", .lays "ViewRounds$Engine" "ViewRounds$Engine" "number" "I", .lays "ViewRounds$Engine" "ViewRounds$Engine" "full" "Z", .lays "ViewRounds$Engine" "ViewRounds$Engine" "program" "LViewRounds$Program;", .lays "ViewRounds$Engine" "ViewRounds$Engine" "rule" "LViewRounds$Rule;", .lays "ViewRounds$Engine" "ViewRounds$Engine" "rows" "[LViewRounds$Rows;", .instantiable "ViewRounds$Rows" 3, .instanceMethod ⟨"ViewRounds$Rows", "<init>", "()V"⟩, .code ⟨"ViewRounds$Rows", "<init>", "()V"⟩ prog_6_method_1_code 1 none, .methodLink "ViewRounds$Rows" 3 ⟨"java/lang/Object", "<init>", "()V"⟩, .fieldLink "ViewRounds$Rows" 9 "ViewRounds$Rows" "keys" "[I", .fieldLink "ViewRounds$Engine" 161 "ViewRounds$Rows" "keys" "[I", .fieldLink "ViewRounds" 165 "ViewRounds$Rows" "keys" "[I", .fieldLink "ViewRounds$Rows" 15 "ViewRounds$Rows" "counts" "[I", .fieldLink "ViewRounds$Engine" 188 "ViewRounds$Rows" "counts" "[I", .fieldLink "ViewRounds" 162 "ViewRounds$Rows" "counts" "[I", .fieldLink "ViewRounds$Rows" 18 "ViewRounds$Rows" "size" "I", .fieldLink "ViewRounds$Engine" 56 "ViewRounds$Rows" "size" "I", .fieldLink "ViewRounds" 82 "ViewRounds$Rows" "size" "I", .laysFinal "ViewRounds$Rows" "ViewRounds$Rows" "keys" "[I", .laysFinal "ViewRounds$Rows" "ViewRounds$Rows" "counts" "[I", .lays "ViewRounds$Rows" "ViewRounds$Rows" "size" "I", .fieldLink "ViewRounds" 9 "ViewRounds" "text" "[B", .fieldLink "ViewRounds" 61 "ViewRounds" "length" "I", .fieldLink "ViewRounds" 13 "ViewRounds" "faultPlace" "I", .fieldLink "ViewRounds" 17 "ViewRounds" "ringNames" "[I", .fieldLink "ViewRounds" 96 "ViewRounds" "ringSize" "I"]
def z_W5 : List Cond := [.fieldLink "ViewRounds" 24 "ViewRounds" "program" "LViewRounds$Program;", .fieldLink "ViewRounds" 30 "ViewRounds" "now" "[LViewRounds$Rows;", .fieldLink "ViewRounds" 34 "ViewRounds" "next" "[LViewRounds$Rows;", .fieldLink "ViewRounds" 42 "ViewRounds" "underWay" "LViewRounds$SignedRows;", .fieldLink "ViewRounds" 46 "ViewRounds" "done" "[LViewRounds$SignedRows;", .fieldLink "ViewRounds" 156 "ViewRounds" "doneSize" "I", .fieldLink "ViewRounds" 50 "ViewRounds" "latest" "LViewRounds$SignedRows;", .fieldLink "ViewRounds" 56 "ViewRounds" "engine" "LViewRounds$Engine;", .laysFinal "ViewRounds" "ViewRounds" "text" "[B", .lays "ViewRounds" "ViewRounds" "length" "I", .lays "ViewRounds" "ViewRounds" "faultPlace" "I", .laysFinal "ViewRounds" "ViewRounds" "ringNames" "[I", .lays "ViewRounds" "ViewRounds" "ringSize" "I", .lays "ViewRounds" "ViewRounds" "program" "LViewRounds$Program;", .lays "ViewRounds" "ViewRounds" "now" "[LViewRounds$Rows;", .lays "ViewRounds" "ViewRounds" "next" "[LViewRounds$Rows;", .lays "ViewRounds" "ViewRounds" "underWay" "LViewRounds$SignedRows;", .laysFinal "ViewRounds" "ViewRounds" "done" "[LViewRounds$SignedRows;", .lays "ViewRounds" "ViewRounds" "doneSize" "I", .laysFinal "ViewRounds" "ViewRounds" "latest" "LViewRounds$SignedRows;", .laysFinal "ViewRounds" "ViewRounds" "engine" "LViewRounds$Engine;", .methodLink "ViewRoundsLaw" 15 ⟨"ViewRounds", "feed", "(JI)I"⟩, .instanceMethod ⟨"ViewRounds", "feed", "(JI)I"⟩, .selects "ViewRounds" ⟨"ViewRounds", "feed", "(JI)I"⟩ ⟨"ViewRounds", "feed", "(JI)I"⟩, .code ⟨"ViewRounds", "feed", "(JI)I"⟩ prog_1_method_2_code 5 (some .int), .methodLink "ViewRoundsLaw" 20 ⟨"ViewRounds", "parse", "()I"⟩, .instanceMethod ⟨"ViewRounds", "parse", "()I"⟩, .selects "ViewRounds" ⟨"ViewRounds", "parse", "()I"⟩ ⟨"ViewRounds", "parse", "()I"⟩, .code ⟨"ViewRounds", "parse", "()I"⟩ prog_1_method_3_code 3 (some .int), .classLink "ViewRounds" 64 "ViewRounds$Reader", .instantiable "ViewRounds$Reader" 7, .methodLink "ViewRounds" 66 ⟨"ViewRounds$Reader", "<init>", "([BI)V"⟩, .instanceMethod ⟨"ViewRounds$Reader", "<init>", "([BI)V"⟩, .code ⟨"ViewRounds$Reader", "<init>", "([BI)V"⟩ prog_5_method_1_code 3 none, .methodLink "ViewRounds$Reader" 3 ⟨"java/lang/Object", "<init>", "()V"⟩, .classLink "ViewRounds$Reader" 9 "ViewRounds$Program", .classLink "ViewRounds$Reader" 22 "ViewRounds$Rule", .methodLink "ViewRounds$Reader" 33 ⟨"java/lang/Math", "min", "(II)I"⟩, .static ⟨"java/lang/Math", "min", "(II)I"⟩, .code ⟨"java/lang/Math", "min", "(II)I"⟩ prog_11_method_69_code 2 (some .int)]
def z_W6 : List Cond := [.fieldLink "ViewRounds$Reader" 12 "ViewRounds$Reader" "program" "LViewRounds$Program;", .fieldLink "ViewRounds" 85 "ViewRounds$Reader" "program" "LViewRounds$Program;", .fieldLink "ViewRounds" 75 "ViewRounds$Reader" "fault" "I", .fieldLink "ViewRounds$Reader" 156 "ViewRounds$Reader" "fault" "I", .fieldLink "ViewRounds$Reader" 18 "ViewRounds$Reader" "faultPlace" "I", .fieldLink "ViewRounds" 199 "ViewRounds$Reader" "faultPlace" "I", .fieldLink "ViewRounds$Reader" 29 "ViewRounds$Reader" "text" "[B", .fieldLink "ViewRounds$Reader" 39 "ViewRounds$Reader" "length" "I", .fieldLink "ViewRounds$Reader" 87 "ViewRounds$Reader" "at" "I", .fieldLink "ViewRounds$Reader" 25 "ViewRounds$Reader" "rule" "LViewRounds$Rule;", .laysFinal "ViewRounds$Reader" "ViewRounds$Reader" "program" "LViewRounds$Program;", .lays "ViewRounds$Reader" "ViewRounds$Reader" "fault" "I", .lays "ViewRounds$Reader" "ViewRounds$Reader" "faultPlace" "I", .laysFinal "ViewRounds$Reader" "ViewRounds$Reader" "text" "[B", .laysFinal "ViewRounds$Reader" "ViewRounds$Reader" "length" "I", .lays "ViewRounds$Reader" "ViewRounds$Reader" "at" "I", .lays "ViewRounds$Reader" "ViewRounds$Reader" "rule" "LViewRounds$Rule;", .methodLink "ViewRounds" 69 ⟨"ViewRounds$Reader", "readRules", "()V"⟩, .instanceMethod ⟨"ViewRounds$Reader", "readRules", "()V"⟩, .selects "ViewRounds$Reader" ⟨"ViewRounds$Reader", "readRules", "()V"⟩ ⟨"ViewRounds$Reader", "readRules", "()V"⟩, .code ⟨"ViewRounds$Reader", "readRules", "()V"⟩ prog_5_method_2_code 3 none, .methodLink "ViewRounds$Reader" 42 ⟨"ViewRounds$Reader", "sign", "()I"⟩, .instanceMethod ⟨"ViewRounds$Reader", "sign", "()I"⟩, .code ⟨"ViewRounds$Reader", "sign", "()I"⟩ prog_5_method_11_code 1 (some .int), .methodLink "ViewRounds$Reader" 46 ⟨"ViewRounds$Reader", "readRule", "()Z"⟩, .instanceMethod ⟨"ViewRounds$Reader", "readRule", "()Z"⟩, .code ⟨"ViewRounds$Reader", "readRule", "()Z"⟩ prog_5_method_3_code 2 (some .boolean), .methodLink "ViewRounds$Reader" 57 ⟨"ViewRounds$Reader", "isName", "(I)Z"⟩, .static ⟨"ViewRounds$Reader", "isName", "(I)Z"⟩, .code ⟨"ViewRounds$Reader", "isName", "(I)Z"⟩ prog_5_method_13_code 1 (some .boolean), .methodLink "ViewRounds$Reader" 53 ⟨"ViewRounds$Reader", "fail", "(I)Z"⟩, .instanceMethod ⟨"ViewRounds$Reader", "fail", "(I)Z"⟩, .code ⟨"ViewRounds$Reader", "fail", "(I)Z"⟩ prog_5_method_12_code 2 (some .boolean), .methodLink "ViewRounds$Reader" 67 ⟨"ViewRounds$Reader", "readNamed", "(LViewRounds$Atom;Z)Z"⟩, .instanceMethod ⟨"ViewRounds$Reader", "readNamed", "(LViewRounds$Atom;Z)Z"⟩, .code ⟨"ViewRounds$Reader", "readNamed", "(LViewRounds$Atom;Z)Z"⟩ prog_5_method_7_code 8 (some .boolean), .methodLink "ViewRounds$Reader" 128 ⟨"ViewRounds$Program", "relationNamed", "(I)I"⟩, .instanceMethod ⟨"ViewRounds$Program", "relationNamed", "(I)I"⟩, .selects "ViewRounds$Program" ⟨"ViewRounds$Program", "relationNamed", "(I)I"⟩ ⟨"ViewRounds$Program", "relationNamed", "(I)I"⟩, .code ⟨"ViewRounds$Program", "relationNamed", "(I)I"⟩ prog_4_method_5_code 3 (some .int)]
def z_W7 : List Cond := [.methodLink "ViewRounds$Reader" 132 ⟨"ViewRounds$Program", "relationMade", "(I)I"⟩, .instanceMethod ⟨"ViewRounds$Program", "relationMade", "(I)I"⟩, .selects "ViewRounds$Program" ⟨"ViewRounds$Program", "relationMade", "(I)I"⟩ ⟨"ViewRounds$Program", "relationMade", "(I)I"⟩, .code ⟨"ViewRounds$Program", "relationMade", "(I)I"⟩ prog_4_method_6_code 3 (some .int), .methodLink "ViewRounds$Program" 48 ⟨"ViewRounds$Program", "relationNamed", "(I)I"⟩, .methodLink "ViewRounds$Reader" 74 ⟨"ViewRounds$Reader", "takes", "(I)Z"⟩, .instanceMethod ⟨"ViewRounds$Reader", "takes", "(I)Z"⟩, .code ⟨"ViewRounds$Reader", "takes", "(I)Z"⟩ prog_5_method_10_code 2 (some .boolean), .methodLink "ViewRounds$Reader" 115 ⟨"ViewRounds$Reader", "readTerm", "(LViewRounds$Atom;Z)Z"⟩, .instanceMethod ⟨"ViewRounds$Reader", "readTerm", "(LViewRounds$Atom;Z)Z"⟩, .code ⟨"ViewRounds$Reader", "readTerm", "(LViewRounds$Atom;Z)Z"⟩ prog_5_method_8_code 4 (some .boolean), .methodLink "ViewRounds$Reader" 100 ⟨"ViewRounds$Reader", "isDigit", "(I)Z"⟩, .static ⟨"ViewRounds$Reader", "isDigit", "(I)Z"⟩, .code ⟨"ViewRounds$Reader", "isDigit", "(I)Z"⟩ prog_5_method_15_code 1 (some .boolean), .methodLink "ViewRounds$Reader" 147 ⟨"ViewRounds$Reader", "readNumber", "()I"⟩, .instanceMethod ⟨"ViewRounds$Reader", "readNumber", "()I"⟩, .code ⟨"ViewRounds$Reader", "readNumber", "()I"⟩ prog_5_method_9_code 3 (some .int), .methodLink "ViewRounds$Reader" 150 ⟨"ViewRounds$Atom", "append", "(I)V"⟩, .instanceMethod ⟨"ViewRounds$Atom", "append", "(I)V"⟩, .selects "ViewRounds$Atom" ⟨"ViewRounds$Atom", "append", "(I)V"⟩ ⟨"ViewRounds$Atom", "append", "(I)V"⟩, .code ⟨"ViewRounds$Atom", "append", "(I)V"⟩ prog_2_method_2_code 2 none, .methodLink "ViewRounds$Reader" 97 ⟨"ViewRounds$Reader", "isVariable", "(I)Z"⟩, .static ⟨"ViewRounds$Reader", "isVariable", "(I)Z"⟩, .code ⟨"ViewRounds$Reader", "isVariable", "(I)Z"⟩ prog_5_method_14_code 1 (some .boolean), .methodLink "ViewRounds$Reader" 153 ⟨"ViewRounds$Rule", "takesVariable", "(I)Z"⟩, .instanceMethod ⟨"ViewRounds$Rule", "takesVariable", "(I)Z"⟩, .selects "ViewRounds$Rule" ⟨"ViewRounds$Rule", "takesVariable", "(I)Z"⟩ ⟨"ViewRounds$Rule", "takesVariable", "(I)Z"⟩, .code ⟨"ViewRounds$Rule", "takesVariable", "(I)Z"⟩ prog_7_method_3_code 2 (some .boolean), .static ⟨"ViewRounds", "isIn", "(II)Z"⟩, .code ⟨"ViewRounds", "isIn", "(II)Z"⟩ prog_1_method_28_code 2 (some .boolean), .methodLink "ViewRounds$Reader" 71 ⟨"ViewRounds$Reader", "closeRule", "()Z"⟩, .instanceMethod ⟨"ViewRounds$Reader", "closeRule", "()Z"⟩, .code ⟨"ViewRounds$Reader", "closeRule", "()Z"⟩ prog_5_method_4_code 1 (some .boolean), .methodLink "ViewRounds$Reader" 80 ⟨"ViewRounds$Rule", "hasLooseVariable", "()Z"⟩, .instanceMethod ⟨"ViewRounds$Rule", "hasLooseVariable", "()Z"⟩, .selects "ViewRounds$Rule" ⟨"ViewRounds$Rule", "hasLooseVariable", "()Z"⟩ ⟨"ViewRounds$Rule", "hasLooseVariable", "()Z"⟩, .code ⟨"ViewRounds$Rule", "hasLooseVariable", "()Z"⟩ prog_7_method_4_code 4 (some .boolean), .methodLink "ViewRounds$Reader" 83 ⟨"ViewRounds$Program", "refusesCount", "(LViewRounds$Rule;)Z"⟩, .instanceMethod ⟨"ViewRounds$Program", "refusesCount", "(LViewRounds$Rule;)Z"⟩, .selects "ViewRounds$Program" ⟨"ViewRounds$Program", "refusesCount", "(LViewRounds$Rule;)Z"⟩ ⟨"ViewRounds$Program", "refusesCount", "(LViewRounds$Rule;)Z"⟩]
def z_W8 : List Cond := [.code ⟨"ViewRounds$Program", "refusesCount", "(LViewRounds$Rule;)Z"⟩ prog_4_method_7_code 2 (some .boolean), .methodLink "ViewRounds$Program" 68 ⟨"ViewRounds$Program", "isView", "(I)Z"⟩, .instanceMethod ⟨"ViewRounds$Program", "isView", "(I)Z"⟩, .selects "ViewRounds$Program" ⟨"ViewRounds$Program", "isView", "(I)Z"⟩ ⟨"ViewRounds$Program", "isView", "(I)Z"⟩, .code ⟨"ViewRounds$Program", "isView", "(I)Z"⟩ prog_4_method_3_code 2 (some .boolean), .methodLink "ViewRounds$Program" 34 ⟨"ViewRounds$Program", "isRelation", "(I)Z"⟩, .instanceMethod ⟨"ViewRounds$Program", "isRelation", "(I)Z"⟩, .selects "ViewRounds$Program" ⟨"ViewRounds$Program", "isRelation", "(I)Z"⟩ ⟨"ViewRounds$Program", "isRelation", "(I)Z"⟩, .code ⟨"ViewRounds$Program", "isRelation", "(I)Z"⟩ prog_4_method_2_code 2 (some .boolean), .methodLink "ViewRounds$Program" 71 ⟨"ViewRounds$Program", "isCounted", "(I)Z"⟩, .instanceMethod ⟨"ViewRounds$Program", "isCounted", "(I)Z"⟩, .selects "ViewRounds$Program" ⟨"ViewRounds$Program", "isCounted", "(I)Z"⟩ ⟨"ViewRounds$Program", "isCounted", "(I)Z"⟩, .code ⟨"ViewRounds$Program", "isCounted", "(I)Z"⟩ prog_4_method_4_code 2 (some .boolean), .methodLink "ViewRounds$Reader" 90 ⟨"ViewRounds$Rule", "arrange", "()V"⟩, .instanceMethod ⟨"ViewRounds$Rule", "arrange", "()V"⟩, .selects "ViewRounds$Rule" ⟨"ViewRounds$Rule", "arrange", "()V"⟩ ⟨"ViewRounds$Rule", "arrange", "()V"⟩, .code ⟨"ViewRounds$Rule", "arrange", "()V"⟩ prog_7_method_5_code 6 none, .methodLink "ViewRounds$Rule" 43 ⟨"ViewRounds$Rule", "nextLiteral", "(II)I"⟩, .instanceMethod ⟨"ViewRounds$Rule", "nextLiteral", "(II)I"⟩, .code ⟨"ViewRounds$Rule", "nextLiteral", "(II)I"⟩ prog_7_method_6_code 6 (some .int), .methodLink "ViewRounds$Reader" 93 ⟨"ViewRounds$Program", "append", "(LViewRounds$Rule;)V"⟩, .instanceMethod ⟨"ViewRounds$Program", "append", "(LViewRounds$Rule;)V"⟩, .selects "ViewRounds$Program" ⟨"ViewRounds$Program", "append", "(LViewRounds$Rule;)V"⟩ ⟨"ViewRounds$Program", "append", "(LViewRounds$Rule;)V"⟩, .code ⟨"ViewRounds$Program", "append", "(LViewRounds$Rule;)V"⟩ prog_4_method_8_code 2 none, .methodLink "ViewRounds$Reader" 77 ⟨"ViewRounds$Reader", "readLiteral", "()Z"⟩, .instanceMethod ⟨"ViewRounds$Reader", "readLiteral", "()Z"⟩, .code ⟨"ViewRounds$Reader", "readLiteral", "()Z"⟩ prog_5_method_5_code 6 (some .boolean), .classLink "ViewRounds$Reader" 109 "ViewRounds$Atom", .methodLink "ViewRounds$Reader" 118 ⟨"ViewRounds$Reader", "readOperator", "(LViewRounds$Atom;)Z"⟩, .instanceMethod ⟨"ViewRounds$Reader", "readOperator", "(LViewRounds$Atom;)Z"⟩, .code ⟨"ViewRounds$Reader", "readOperator", "(LViewRounds$Atom;)Z"⟩ prog_5_method_6_code 3 (some .boolean), .methodLink "ViewRounds$Reader" 122 ⟨"ViewRounds$Rule", "append", "(LViewRounds$Atom;)V"⟩, .instanceMethod ⟨"ViewRounds$Rule", "append", "(LViewRounds$Atom;)V"⟩, .selects "ViewRounds$Rule" ⟨"ViewRounds$Rule", "append", "(LViewRounds$Atom;)V"⟩ ⟨"ViewRounds$Rule", "append", "(LViewRounds$Atom;)V"⟩, .code ⟨"ViewRounds$Rule", "append", "(LViewRounds$Atom;)V"⟩ prog_7_method_2_code 2 none, .methodLink "ViewRounds$Reader" 50 ⟨"ViewRounds$Program", "findLayers", "()Z"⟩, .instanceMethod ⟨"ViewRounds$Program", "findLayers", "()Z"⟩, .selects "ViewRounds$Program" ⟨"ViewRounds$Program", "findLayers", "()Z"⟩ ⟨"ViewRounds$Program", "findLayers", "()Z"⟩, .code ⟨"ViewRounds$Program", "findLayers", "()Z"⟩ prog_4_method_9_code 2 (some .boolean), .methodLink "ViewRounds$Program" 77 ⟨"ViewRounds$Program", "findReach", "()V"⟩]
def z_W9 : List Cond := [.instanceMethod ⟨"ViewRounds$Program", "findReach", "()V"⟩, .code ⟨"ViewRounds$Program", "findReach", "()V"⟩ prog_4_method_10_code 4 none, .methodLink "ViewRounds$Program" 80 ⟨"ViewRounds$Program", "findRing", "()V"⟩, .instanceMethod ⟨"ViewRounds$Program", "findRing", "()V"⟩, .code ⟨"ViewRounds$Program", "findRing", "()V"⟩ prog_4_method_11_code 6 none, .methodLink "ViewRounds$Program" 105 ⟨"ViewRounds$Program", "mustLieBelow", "(LViewRounds$Rule;LViewRounds$Atom;)Z"⟩, .instanceMethod ⟨"ViewRounds$Program", "mustLieBelow", "(LViewRounds$Rule;LViewRounds$Atom;)Z"⟩, .code ⟨"ViewRounds$Program", "mustLieBelow", "(LViewRounds$Rule;LViewRounds$Atom;)Z"⟩ prog_4_method_12_code 3 (some .boolean), .methodLink "ViewRounds$Program" 109 ⟨"ViewRounds$Program", "ringThrough", "(I)I"⟩, .instanceMethod ⟨"ViewRounds$Program", "ringThrough", "(I)I"⟩, .code ⟨"ViewRounds$Program", "ringThrough", "(I)I"⟩ prog_4_method_13_code 4 (some .int), .methodLink "ViewRounds$Program" 112 ⟨"ViewRounds$Program", "chooseRing", "(I)V"⟩, .instanceMethod ⟨"ViewRounds$Program", "chooseRing", "(I)V"⟩, .code ⟨"ViewRounds$Program", "chooseRing", "(I)V"⟩ prog_4_method_14_code 2 none, .methodLink "ViewRounds$Program" 86 ⟨"ViewRounds$Program", "raiseLayers", "()V"⟩, .instanceMethod ⟨"ViewRounds$Program", "raiseLayers", "()V"⟩, .code ⟨"ViewRounds$Program", "raiseLayers", "()V"⟩ prog_4_method_15_code 7 none, .methodLink "ViewRounds$Program" 92 ⟨"java/lang/Math", "max", "(II)I"⟩, .methodLink "ViewRounds" 72 ⟨"ViewRounds", "forgetRules", "()V"⟩, .instanceMethod ⟨"ViewRounds", "forgetRules", "()V"⟩, .code ⟨"ViewRounds", "forgetRules", "()V"⟩ prog_1_method_20_code 1 none, .methodLink "ViewRounds" 78 ⟨"ViewRounds", "keepFault", "(LViewRounds$Reader;)V"⟩, .instanceMethod ⟨"ViewRounds", "keepFault", "(LViewRounds$Reader;)V"⟩, .code ⟨"ViewRounds", "keepFault", "(LViewRounds$Reader;)V"⟩ prog_1_method_21_code 3 none, .methodLink "ViewRounds" 123 ⟨"ViewRounds", "isIn", "(II)Z"⟩, .methodLink "ViewRounds" 86 ⟨"ViewRounds$Engine", "workViews", "(LViewRounds$Program;[LViewRounds$Rows;)Z"⟩, .instanceMethod ⟨"ViewRounds$Engine", "workViews", "(LViewRounds$Program;[LViewRounds$Rows;)Z"⟩, .selects "ViewRounds$Engine" ⟨"ViewRounds$Engine", "workViews", "(LViewRounds$Program;[LViewRounds$Rows;)Z"⟩ ⟨"ViewRounds$Engine", "workViews", "(LViewRounds$Program;[LViewRounds$Rows;)Z"⟩, .code ⟨"ViewRounds$Engine", "workViews", "(LViewRounds$Program;[LViewRounds$Rows;)Z"⟩ prog_3_method_2_code 4 (some .boolean), .methodLink "ViewRounds$Engine" 44 ⟨"ViewRounds$Engine", "begin", "(LViewRounds$Program;[LViewRounds$Rows;I)V"⟩, .instanceMethod ⟨"ViewRounds$Engine", "begin", "(LViewRounds$Program;[LViewRounds$Rows;I)V"⟩, .code ⟨"ViewRounds$Engine", "begin", "(LViewRounds$Program;[LViewRounds$Rows;I)V"⟩ prog_3_method_5_code 4 none, .methodLink "ViewRounds$Engine" 52 ⟨"ViewRounds$Program", "isView", "(I)Z"⟩, .methodLink "ViewRounds$Engine" 69 ⟨"ViewRounds$Engine", "seed", "(I)V"⟩, .instanceMethod ⟨"ViewRounds$Engine", "seed", "(I)V"⟩, .code ⟨"ViewRounds$Engine", "seed", "(I)V"⟩ prog_3_method_7_code 3 none, .methodLink "ViewRounds$Engine" 115 ⟨"ViewRounds$Engine", "usesLayer", "(I)Z"⟩, .instanceMethod ⟨"ViewRounds$Engine", "usesLayer", "(I)Z"⟩, .code ⟨"ViewRounds$Engine", "usesLayer", "(I)Z"⟩ prog_3_method_8_code 3 (some .boolean), .methodLink "ViewRounds$Engine" 109 ⟨"ViewRounds$Engine", "solve", "(I)V"⟩]
def z_W10 : List Cond := [.instanceMethod ⟨"ViewRounds$Engine", "solve", "(I)V"⟩, .code ⟨"ViewRounds$Engine", "solve", "(I)V"⟩ prog_3_method_10_code 8 none, .methodLink "ViewRounds$Engine" 132 ⟨"ViewRounds$Engine", "isNothingNew", "()Z"⟩, .instanceMethod ⟨"ViewRounds$Engine", "isNothingNew", "()Z"⟩, .code ⟨"ViewRounds$Engine", "isNothingNew", "()Z"⟩ prog_3_method_11_code 2 (some .boolean), .methodLink "ViewRounds$Engine" 167 ⟨"ViewRounds$Engine", "keyOf", "(LViewRounds$Atom;)I"⟩, .instanceMethod ⟨"ViewRounds$Engine", "keyOf", "(LViewRounds$Atom;)I"⟩, .code ⟨"ViewRounds$Engine", "keyOf", "(LViewRounds$Atom;)I"⟩ prog_3_method_19_code 4 (some .int), .methodLink "ViewRounds$Engine" 155 ⟨"ViewRounds$Engine", "valueOf", "(I)I"⟩, .instanceMethod ⟨"ViewRounds$Engine", "valueOf", "(I)I"⟩, .code ⟨"ViewRounds$Engine", "valueOf", "(I)I"⟩ prog_3_method_21_code 2 (some .int), .static ⟨"ViewRounds", "weight", "(I)I"⟩, .code ⟨"ViewRounds", "weight", "(I)I"⟩ prog_1_method_29_code 1 (some .int), .constant "ViewRounds" 224 (1000000 : Int32), .methodLink "ViewRounds$Engine" 171 ⟨"ViewRounds$Rows", "countOf", "(I)I"⟩, .instanceMethod ⟨"ViewRounds$Rows", "countOf", "(I)I"⟩, .selects "ViewRounds$Rows" ⟨"ViewRounds$Rows", "countOf", "(I)I"⟩ ⟨"ViewRounds$Rows", "countOf", "(I)I"⟩, .code ⟨"ViewRounds$Rows", "countOf", "(I)I"⟩ prog_6_method_3_code 3 (some .int), .methodLink "ViewRounds$Rows" 22 ⟨"ViewRounds$Rows", "seek", "(I)I"⟩, .instanceMethod ⟨"ViewRounds$Rows", "seek", "(I)I"⟩, .selects "ViewRounds$Rows" ⟨"ViewRounds$Rows", "seek", "(I)I"⟩ ⟨"ViewRounds$Rows", "seek", "(I)I"⟩, .code ⟨"ViewRounds$Rows", "seek", "(I)I"⟩ prog_6_method_2_code 5 (some .int), .methodLink "ViewRounds$Engine" 136 ⟨"ViewRounds$Engine", "found", "()V"⟩, .instanceMethod ⟨"ViewRounds$Engine", "found", "()V"⟩, .code ⟨"ViewRounds$Engine", "found", "()V"⟩ prog_3_method_12_code 4 none, .methodLink "ViewRounds$Engine" 174 ⟨"ViewRounds$Rows", "add", "(II)I"⟩, .instanceMethod ⟨"ViewRounds$Rows", "add", "(II)I"⟩, .selects "ViewRounds$Rows" ⟨"ViewRounds$Rows", "add", "(II)I"⟩ ⟨"ViewRounds$Rows", "add", "(II)I"⟩, .code ⟨"ViewRounds$Rows", "add", "(II)I"⟩ prog_6_method_4_code 5 (some .int), .methodLink "ViewRounds$Engine" 178 ⟨"ViewRounds$Engine", "enqueue", "(II)V"⟩, .instanceMethod ⟨"ViewRounds$Engine", "enqueue", "(II)V"⟩, .code ⟨"ViewRounds$Engine", "enqueue", "(II)V"⟩ prog_3_method_13_code 3 none, .methodLink "ViewRounds$Engine" 182 ⟨"ViewRounds$Engine", "isLess", "()Z"⟩, .instanceMethod ⟨"ViewRounds$Engine", "isLess", "()Z"⟩, .code ⟨"ViewRounds$Engine", "isLess", "()Z"⟩ prog_3_method_15_code 3 (some .boolean), .methodLink "ViewRounds$Engine" 185 ⟨"ViewRounds$Engine", "keepValues", "()V"⟩, .instanceMethod ⟨"ViewRounds$Engine", "keepValues", "()V"⟩, .code ⟨"ViewRounds$Engine", "keepValues", "()V"⟩ prog_3_method_16_code 3 none, .methodLink "ViewRounds$Engine" 139 ⟨"ViewRounds$Engine", "holds", "(LViewRounds$Atom;)Z"⟩, .instanceMethod ⟨"ViewRounds$Engine", "holds", "(LViewRounds$Atom;)Z"⟩]
def z_W11 : List Cond := [.code ⟨"ViewRounds$Engine", "holds", "(LViewRounds$Atom;)Z"⟩ prog_3_method_18_code 4 (some .boolean), .constant "ViewRounds$Engine" 143 (1000000000 : Int32), .methodLink "ViewRounds$Engine" 148 ⟨"ViewRounds$Engine", "isKnown", "(I)Z"⟩, .instanceMethod ⟨"ViewRounds$Engine", "isKnown", "(I)Z"⟩, .code ⟨"ViewRounds$Engine", "isKnown", "(I)Z"⟩ prog_3_method_20_code 2 (some .boolean), .methodLink "ViewRounds$Engine" 158 ⟨"ViewRounds$Rows", "seek", "(I)I"⟩, .methodLink "ViewRounds$Engine" 105 ⟨"ViewRounds$Engine", "matches", "(LViewRounds$Atom;I)Z"⟩, .instanceMethod ⟨"ViewRounds$Engine", "matches", "(LViewRounds$Atom;I)Z"⟩, .code ⟨"ViewRounds$Engine", "matches", "(LViewRounds$Atom;I)Z"⟩ prog_3_method_17_code 6 (some .boolean), .static ⟨"ViewRounds", "valueAt", "(II)I"⟩, .code ⟨"ViewRounds", "valueAt", "(II)I"⟩ prog_1_method_30_code 2 (some .int), .methodLink "ViewRounds$Engine" 121 ⟨"ViewRounds$Engine", "closeCounts", "()V"⟩, .instanceMethod ⟨"ViewRounds$Engine", "closeCounts", "()V"⟩, .code ⟨"ViewRounds$Engine", "closeCounts", "()V"⟩ prog_3_method_14_code 3 none, .methodLink "ViewRounds$Engine" 73 ⟨"ViewRounds$Engine", "spread", "(I)V"⟩, .instanceMethod ⟨"ViewRounds$Engine", "spread", "(I)V"⟩, .code ⟨"ViewRounds$Engine", "spread", "(I)V"⟩ prog_3_method_9_code 6 none, .methodLink "ViewRounds" 90 ⟨"ViewRounds", "takeNext", "()V"⟩, .instanceMethod ⟨"ViewRounds", "takeNext", "()V"⟩, .code ⟨"ViewRounds", "takeNext", "()V"⟩ prog_1_method_26_code 2 none, .methodLink "ViewRoundsLaw" 25 ⟨"ViewRounds", "place", "()I"⟩, .instanceMethod ⟨"ViewRounds", "place", "()I"⟩, .selects "ViewRounds" ⟨"ViewRounds", "place", "()I"⟩ ⟨"ViewRounds", "place", "()I"⟩, .code ⟨"ViewRounds", "place", "()I"⟩ prog_1_method_4_code 1 (some .int), .methodLink "ViewRoundsLaw" 29 ⟨"ViewRounds", "ring", "(I)I"⟩, .instanceMethod ⟨"ViewRounds", "ring", "(I)I"⟩, .selects "ViewRounds" ⟨"ViewRounds", "ring", "(I)I"⟩ ⟨"ViewRounds", "ring", "(I)I"⟩, .code ⟨"ViewRounds", "ring", "(I)I"⟩ prog_1_method_5_code 2 (some .int), .methodLink "ViewRoundsLaw" 34 ⟨"ViewRounds", "relation", "(I)I"⟩, .instanceMethod ⟨"ViewRounds", "relation", "(I)I"⟩, .selects "ViewRounds" ⟨"ViewRounds", "relation", "(I)I"⟩ ⟨"ViewRounds", "relation", "(I)I"⟩, .code ⟨"ViewRounds", "relation", "(I)I"⟩ prog_1_method_6_code 2 (some .int), .methodLink "ViewRounds" 99 ⟨"ViewRounds", "hasNoRules", "()Z"⟩, .instanceMethod ⟨"ViewRounds", "hasNoRules", "()Z"⟩, .code ⟨"ViewRounds", "hasNoRules", "()Z"⟩ prog_1_method_19_code 1 (some .boolean), .methodLink "ViewRounds" 103 ⟨"ViewRounds$Program", "relationNamed", "(I)I"⟩, .methodLink "ViewRoundsLaw" 38 ⟨"ViewRounds", "of", "(II)I"⟩, .instanceMethod ⟨"ViewRounds", "of", "(II)I"⟩, .selects "ViewRounds" ⟨"ViewRounds", "of", "(II)I"⟩ ⟨"ViewRounds", "of", "(II)I"⟩, .code ⟨"ViewRounds", "of", "(II)I"⟩ prog_1_method_7_code 3 (some .int)]
def z_W12 : List Cond := [.methodLink "ViewRounds" 107 ⟨"ViewRounds$Program", "isRelation", "(I)Z"⟩, .methodLink "ViewRounds" 111 ⟨"ViewRounds$Program", "isView", "(I)Z"⟩, .methodLink "ViewRoundsLaw" 43 ⟨"ViewRounds", "change", "(IIIII)I"⟩, .instanceMethod ⟨"ViewRounds", "change", "(IIIII)I"⟩, .selects "ViewRounds" ⟨"ViewRounds", "change", "(IIIII)I"⟩ ⟨"ViewRounds", "change", "(IIIII)I"⟩, .code ⟨"ViewRounds", "change", "(IIIII)I"⟩ prog_1_method_8_code 7 (some .int), .methodLink "ViewRounds" 127 ⟨"ViewRounds", "pack", "(IIII)I"⟩, .static ⟨"ViewRounds", "pack", "(IIII)I"⟩, .code ⟨"ViewRounds", "pack", "(IIII)I"⟩ prog_1_method_31_code 7 (some .int), .methodLink "ViewRounds" 225 ⟨"ViewRounds", "isValue", "(I)Z"⟩, .static ⟨"ViewRounds", "isValue", "(I)Z"⟩, .code ⟨"ViewRounds", "isValue", "(I)Z"⟩ prog_1_method_32_code 1 (some .boolean), .methodLink "ViewRounds" 132 ⟨"ViewRounds$SignedRows", "append", "(III)V"⟩, .instanceMethod ⟨"ViewRounds$SignedRows", "append", "(III)V"⟩, .selects "ViewRounds$SignedRows" ⟨"ViewRounds$SignedRows", "append", "(III)V"⟩ ⟨"ViewRounds$SignedRows", "append", "(III)V"⟩, .code ⟨"ViewRounds$SignedRows", "append", "(III)V"⟩ prog_8_method_2_code 4 none, .methodLink "ViewRoundsLaw" 48 ⟨"ViewRounds", "batch", "()I"⟩, .instanceMethod ⟨"ViewRounds", "batch", "()I"⟩, .selects "ViewRounds" ⟨"ViewRounds", "batch", "()I"⟩ ⟨"ViewRounds", "batch", "()I"⟩, .code ⟨"ViewRounds", "batch", "()I"⟩ prog_1_method_9_code 2 (some .int), .methodLink "ViewRounds" 136 ⟨"ViewRounds", "settle", "(LViewRounds$SignedRows;I)I"⟩, .instanceMethod ⟨"ViewRounds", "settle", "(LViewRounds$SignedRows;I)I"⟩, .code ⟨"ViewRounds", "settle", "(LViewRounds$SignedRows;I)I"⟩ prog_1_method_22_code 5 (some .int), .methodLink "ViewRounds" 188 ⟨"ViewRounds", "copyTables", "()V"⟩, .instanceMethod ⟨"ViewRounds", "copyTables", "()V"⟩, .code ⟨"ViewRounds", "copyTables", "()V"⟩ prog_1_method_25_code 2 none, .methodLink "ViewRounds" 216 ⟨"ViewRounds$Rows", "copy", "(LViewRounds$Rows;)V"⟩, .instanceMethod ⟨"ViewRounds$Rows", "copy", "(LViewRounds$Rows;)V"⟩, .selects "ViewRounds$Rows" ⟨"ViewRounds$Rows", "copy", "(LViewRounds$Rows;)V"⟩ ⟨"ViewRounds$Rows", "copy", "(LViewRounds$Rows;)V"⟩, .code ⟨"ViewRounds$Rows", "copy", "(LViewRounds$Rows;)V"⟩ prog_6_method_6_code 3 none, .methodLink "ViewRounds" 206 ⟨"ViewRounds$Rows", "add", "(II)I"⟩, .methodLink "ViewRounds" 209 ⟨"ViewRounds$Rows", "dropZeros", "()Z"⟩, .instanceMethod ⟨"ViewRounds$Rows", "dropZeros", "()Z"⟩, .selects "ViewRounds$Rows" ⟨"ViewRounds$Rows", "dropZeros", "()Z"⟩ ⟨"ViewRounds$Rows", "dropZeros", "()Z"⟩, .code ⟨"ViewRounds$Rows", "dropZeros", "()Z"⟩ prog_6_method_5_code 3 (some .boolean), .methodLink "ViewRounds" 212 ⟨"ViewRounds", "noteDifferences", "(ILViewRounds$Rows;LViewRounds$Rows;)V"⟩, .instanceMethod ⟨"ViewRounds", "noteDifferences", "(ILViewRounds$Rows;LViewRounds$Rows;)V"⟩, .code ⟨"ViewRounds", "noteDifferences", "(ILViewRounds$Rows;LViewRounds$Rows;)V"⟩ prog_1_method_23_code 9 none, .methodLink "ViewRounds" 140 ⟨"ViewRounds", "keepForTakingBack", "()V"⟩, .instanceMethod ⟨"ViewRounds", "keepForTakingBack", "()V"⟩]
def z_W13 : List Cond := [.code ⟨"ViewRounds", "keepForTakingBack", "()V"⟩ prog_1_method_24_code 3 none, .methodLink "ViewRoundsLaw" 52 ⟨"ViewRounds", "drop", "()I"⟩, .instanceMethod ⟨"ViewRounds", "drop", "()I"⟩, .selects "ViewRounds" ⟨"ViewRounds", "drop", "()I"⟩ ⟨"ViewRounds", "drop", "()I"⟩, .code ⟨"ViewRounds", "drop", "()I"⟩ prog_1_method_10_code 2 (some .int), .methodLink "ViewRoundsLaw" 56 ⟨"ViewRounds", "difference", "(II)I"⟩, .instanceMethod ⟨"ViewRounds", "difference", "(II)I"⟩, .selects "ViewRounds" ⟨"ViewRounds", "difference", "(II)I"⟩ ⟨"ViewRounds", "difference", "(II)I"⟩, .code ⟨"ViewRounds", "difference", "(II)I"⟩ prog_1_method_11_code 3 (some .int), .methodLink "ViewRounds" 152 ⟨"ViewRounds", "valueAt", "(II)I"⟩, .methodLink "ViewRoundsLaw" 60 ⟨"ViewRounds", "undo", "()I"⟩, .instanceMethod ⟨"ViewRounds", "undo", "()I"⟩, .selects "ViewRounds" ⟨"ViewRounds", "undo", "()I"⟩ ⟨"ViewRounds", "undo", "()I"⟩, .code ⟨"ViewRounds", "undo", "()I"⟩ prog_1_method_12_code 2 (some .int), .methodLink "ViewRoundsLaw" 64 ⟨"ViewRounds", "has", "(IIII)I"⟩, .instanceMethod ⟨"ViewRounds", "has", "(IIII)I"⟩, .selects "ViewRounds" ⟨"ViewRounds", "has", "(IIII)I"⟩ ⟨"ViewRounds", "has", "(IIII)I"⟩, .code ⟨"ViewRounds", "has", "(IIII)I"⟩ prog_1_method_13_code 6 (some .int), .methodLink "ViewRounds" 159 ⟨"ViewRounds$Rows", "countOf", "(I)I"⟩, .methodLink "ViewRoundsLaw" 69 ⟨"ViewRounds", "row", "(III)I"⟩, .instanceMethod ⟨"ViewRounds", "row", "(III)I"⟩, .selects "ViewRounds" ⟨"ViewRounds", "row", "(III)I"⟩ ⟨"ViewRounds", "row", "(III)I"⟩, .code ⟨"ViewRounds", "row", "(III)I"⟩ prog_1_method_14_code 5 (some .int), .methodLink "ViewRoundsLaw" 74 ⟨"ViewRounds", "derivations", "(IIII)I"⟩, .instanceMethod ⟨"ViewRounds", "derivations", "(IIII)I"⟩, .selects "ViewRounds" ⟨"ViewRounds", "derivations", "(IIII)I"⟩ ⟨"ViewRounds", "derivations", "(IIII)I"⟩, .code ⟨"ViewRounds", "derivations", "(IIII)I"⟩ prog_1_method_15_code 6 (some .int), .methodLink "ViewRounds" 166 ⟨"ViewRounds$Program", "isCounted", "(I)Z"⟩, .methodLink "ViewRounds" 169 ⟨"ViewRounds$Engine", "countDerivations", "(LViewRounds$Program;[LViewRounds$Rows;II)I"⟩, .instanceMethod ⟨"ViewRounds$Engine", "countDerivations", "(LViewRounds$Program;[LViewRounds$Rows;II)I"⟩, .selects "ViewRounds$Engine" ⟨"ViewRounds$Engine", "countDerivations", "(LViewRounds$Program;[LViewRounds$Rows;II)I"⟩ ⟨"ViewRounds$Engine", "countDerivations", "(LViewRounds$Program;[LViewRounds$Rows;II)I"⟩, .code ⟨"ViewRounds$Engine", "countDerivations", "(LViewRounds$Program;[LViewRounds$Rows;II)I"⟩ prog_3_method_3_code 6 (some .int), .methodLink "ViewRounds$Engine" 79 ⟨"ViewRounds$Engine", "solveFor", "(III)V"⟩, .instanceMethod ⟨"ViewRounds$Engine", "solveFor", "(III)V"⟩, .code ⟨"ViewRounds$Engine", "solveFor", "(III)V"⟩ prog_3_method_6_code 4 none, .methodLink "ViewRoundsLaw" 78 ⟨"ViewRounds", "why", "(IIIII)I"⟩, .instanceMethod ⟨"ViewRounds", "why", "(IIIII)I"⟩, .selects "ViewRounds" ⟨"ViewRounds", "why", "(IIIII)I"⟩ ⟨"ViewRounds", "why", "(IIIII)I"⟩, .code ⟨"ViewRounds", "why", "(IIIII)I"⟩ prog_1_method_16_code 9 (some .int), .methodLink "ViewRounds" 173 ⟨"ViewRounds$Engine", "findLeast", "(LViewRounds$Program;[LViewRounds$Rows;II)I"⟩]
def z_W14 : List Cond := [.instanceMethod ⟨"ViewRounds$Engine", "findLeast", "(LViewRounds$Program;[LViewRounds$Rows;II)I"⟩, .selects "ViewRounds$Engine" ⟨"ViewRounds$Engine", "findLeast", "(LViewRounds$Program;[LViewRounds$Rows;II)I"⟩ ⟨"ViewRounds$Engine", "findLeast", "(LViewRounds$Program;[LViewRounds$Rows;II)I"⟩, .code ⟨"ViewRounds$Engine", "findLeast", "(LViewRounds$Program;[LViewRounds$Rows;II)I"⟩ prog_3_method_4_code 6 (some .int), .methodLink "ViewRoundsLaw" 82 ⟨"ViewRounds", "anew", "()Z"⟩, .instanceMethod ⟨"ViewRounds", "anew", "()Z"⟩, .selects "ViewRounds" ⟨"ViewRounds", "anew", "()Z"⟩ ⟨"ViewRounds", "anew", "()Z"⟩, .code ⟨"ViewRounds", "anew", "()Z"⟩ prog_1_method_17_code 1 (some .boolean), .methodLink "ViewRounds" 191 ⟨"ViewRounds", "viewsAreTheSame", "()Z"⟩, .instanceMethod ⟨"ViewRounds", "viewsAreTheSame", "()Z"⟩, .code ⟨"ViewRounds", "viewsAreTheSame", "()Z"⟩ prog_1_method_27_code 2 (some .boolean), .methodLink "ViewRounds" 220 ⟨"ViewRounds$Rows", "isSame", "(LViewRounds$Rows;)Z"⟩, .instanceMethod ⟨"ViewRounds$Rows", "isSame", "(LViewRounds$Rows;)Z"⟩, .selects "ViewRounds$Rows" ⟨"ViewRounds$Rows", "isSame", "(LViewRounds$Rows;)Z"⟩ ⟨"ViewRounds$Rows", "isSame", "(LViewRounds$Rows;)Z"⟩, .code ⟨"ViewRounds$Rows", "isSame", "(LViewRounds$Rows;)Z"⟩ prog_6_method_7_code 3 (some .boolean), .methodLink "ViewRoundsLaw" 87 ⟨"ViewRounds", "told", "(I)I"⟩, .instanceMethod ⟨"ViewRounds", "told", "(I)I"⟩, .selects "ViewRounds" ⟨"ViewRounds", "told", "(I)I"⟩ ⟨"ViewRounds", "told", "(I)I"⟩, .code ⟨"ViewRounds", "told", "(I)I"⟩ prog_1_method_18_code 2 (some .int), .classLink "ViewRoundsLaw" 10 "ViewRoundsModel", .instantiable "ViewRoundsModel" 51, .methodLink "ViewRoundsLaw" 12 ⟨"ViewRoundsModel", "<init>", "()V"⟩, .instanceMethod ⟨"ViewRoundsModel", "<init>", "()V"⟩, .code ⟨"ViewRoundsModel", "<init>", "()V"⟩ prog_10_method_1_code 1 none, .methodLink "ViewRoundsModel" 1 ⟨"java/lang/Object", "<init>", "()V"⟩, .fieldLink "ViewRoundsModel" 7 "ViewRoundsModel" "text" "[B", .fieldLink "ViewRoundsModel" 274 "ViewRoundsModel" "size" "I", .fieldLink "ViewRoundsModel" 13 "ViewRoundsModel" "signs" "[I", .fieldLink "ViewRoundsModel" 17 "ViewRoundsModel" "places" "[I", .fieldLink "ViewRoundsModel" 280 "ViewRoundsModel" "many" "I", .fieldLink "ViewRoundsModel" 124 "ViewRoundsModel" "at" "I", .fieldLink "ViewRoundsModel" 121 "ViewRoundsModel" "fault" "I", .fieldLink "ViewRoundsModel" 20 "ViewRoundsModel" "place" "I", .fieldLink "ViewRoundsModel" 164 "ViewRoundsModel" "rules" "I", .fieldLink "ViewRoundsModel" 24 "ViewRoundsModel" "head" "[I", .fieldLink "ViewRoundsModel" 27 "ViewRoundsModel" "headTerms" "[I", .fieldLink "ViewRoundsModel" 30 "ViewRoundsModel" "literals" "[I", .fieldLink "ViewRoundsModel" 33 "ViewRoundsModel" "kinds" "[I", .fieldLink "ViewRoundsModel" 36 "ViewRoundsModel" "relations" "[I", .fieldLink "ViewRoundsModel" 39 "ViewRoundsModel" "terms" "[I", .fieldLink "ViewRoundsModel" 42 "ViewRoundsModel" "counting" "[Z"]
def z_W15 : List Cond := [.fieldLink "ViewRoundsModel" 46 "ViewRoundsModel" "letters" "[I", .fieldLink "ViewRoundsModel" 139 "ViewRoundsModel" "known" "I", .fieldLink "ViewRoundsModel" 49 "ViewRoundsModel" "names" "[I", .fieldLink "ViewRoundsModel" 52 "ViewRoundsModel" "arity" "[I", .fieldLink "ViewRoundsModel" 55 "ViewRoundsModel" "view" "[Z", .fieldLink "ViewRoundsModel" 58 "ViewRoundsModel" "layer" "[I", .fieldLink "ViewRoundsModel" 61 "ViewRoundsModel" "reach" "[Z", .fieldLink "ViewRoundsModel" 64 "ViewRoundsModel" "onRing" "[Z", .fieldLink "ViewRoundsModel" 67 "ViewRoundsModel" "values" "[I", .fieldLink "ViewRoundsModel" 70 "ViewRoundsModel" "counts" "[I", .fieldLink "ViewRoundsModel" 73 "ViewRoundsModel" "rows" "[I", .fieldLink "ViewRoundsModel" 76 "ViewRoundsModel" "oldValues" "[I", .fieldLink "ViewRoundsModel" 79 "ViewRoundsModel" "oldCounts" "[I", .fieldLink "ViewRoundsModel" 82 "ViewRoundsModel" "oldRows" "[I", .fieldLink "ViewRoundsModel" 85 "ViewRoundsModel" "batch" "[I", .fieldLink "ViewRoundsModel" 286 "ViewRoundsModel" "batched" "I", .fieldLink "ViewRoundsModel" 88 "ViewRoundsModel" "kept" "[I", .fieldLink "ViewRoundsModel" 91 "ViewRoundsModel" "keptMany" "[I", .fieldLink "ViewRoundsModel" 277 "ViewRoundsModel" "history" "I", .fieldLink "ViewRoundsModel" 94 "ViewRoundsModel" "differences" "[I", .fieldLink "ViewRoundsModel" 264 "ViewRoundsModel" "different" "I", .fieldLink "ViewRoundsModel" 97 "ViewRoundsModel" "bound" "[I", .fieldLink "ViewRoundsModel" 100 "ViewRoundsModel" "cursor" "[I", .fieldLink "ViewRoundsModel" 103 "ViewRoundsModel" "positives" "[I", .fieldLink "ViewRoundsModel" 202 "ViewRoundsModel" "depth" "I", .fieldLink "ViewRoundsModel" 199 "ViewRoundsModel" "goals" "I", .fieldLink "ViewRoundsModel" 196 "ViewRoundsModel" "current" "I", .fieldLink "ViewRoundsModel" 106 "ViewRoundsModel" "fresh" "[I", .fieldLink "ViewRoundsModel" 109 "ViewRoundsModel" "freshCount" "[I", .fieldLink "ViewRoundsModel" 223 "ViewRoundsModel" "freshMany" "I", .fieldLink "ViewRoundsModel" 112 "ViewRoundsModel" "sums" "[I", .fieldLink "ViewRoundsModel" 245 "ViewRoundsModel" "summed" "I", .fieldLink "ViewRoundsModel" 115 "ViewRoundsModel" "ringNames" "[I", .fieldLink "ViewRoundsModel" 304 "ViewRoundsModel" "ringSize" "I", .fieldLink "ViewRoundsModel" 118 "ViewRoundsModel" "best" "[I", .laysFinal "ViewRoundsModel" "ViewRoundsModel" "text" "[B", .lays "ViewRoundsModel" "ViewRoundsModel" "size" "I", .laysFinal "ViewRoundsModel" "ViewRoundsModel" "signs" "[I", .laysFinal "ViewRoundsModel" "ViewRoundsModel" "places" "[I", .lays "ViewRoundsModel" "ViewRoundsModel" "many" "I"]
def z_W16 : List Cond := [.lays "ViewRoundsModel" "ViewRoundsModel" "at" "I", .lays "ViewRoundsModel" "ViewRoundsModel" "fault" "I", .lays "ViewRoundsModel" "ViewRoundsModel" "place" "I", .lays "ViewRoundsModel" "ViewRoundsModel" "rules" "I", .laysFinal "ViewRoundsModel" "ViewRoundsModel" "head" "[I", .laysFinal "ViewRoundsModel" "ViewRoundsModel" "headTerms" "[I", .laysFinal "ViewRoundsModel" "ViewRoundsModel" "literals" "[I", .laysFinal "ViewRoundsModel" "ViewRoundsModel" "kinds" "[I", .laysFinal "ViewRoundsModel" "ViewRoundsModel" "relations" "[I", .laysFinal "ViewRoundsModel" "ViewRoundsModel" "terms" "[I", .laysFinal "ViewRoundsModel" "ViewRoundsModel" "counting" "[Z", .laysFinal "ViewRoundsModel" "ViewRoundsModel" "letters" "[I", .lays "ViewRoundsModel" "ViewRoundsModel" "known" "I", .laysFinal "ViewRoundsModel" "ViewRoundsModel" "names" "[I", .laysFinal "ViewRoundsModel" "ViewRoundsModel" "arity" "[I", .laysFinal "ViewRoundsModel" "ViewRoundsModel" "view" "[Z", .laysFinal "ViewRoundsModel" "ViewRoundsModel" "layer" "[I", .laysFinal "ViewRoundsModel" "ViewRoundsModel" "reach" "[Z", .laysFinal "ViewRoundsModel" "ViewRoundsModel" "onRing" "[Z", .laysFinal "ViewRoundsModel" "ViewRoundsModel" "values" "[I", .laysFinal "ViewRoundsModel" "ViewRoundsModel" "counts" "[I", .laysFinal "ViewRoundsModel" "ViewRoundsModel" "rows" "[I", .laysFinal "ViewRoundsModel" "ViewRoundsModel" "oldValues" "[I", .laysFinal "ViewRoundsModel" "ViewRoundsModel" "oldCounts" "[I", .laysFinal "ViewRoundsModel" "ViewRoundsModel" "oldRows" "[I", .laysFinal "ViewRoundsModel" "ViewRoundsModel" "batch" "[I", .lays "ViewRoundsModel" "ViewRoundsModel" "batched" "I", .laysFinal "ViewRoundsModel" "ViewRoundsModel" "kept" "[I", .laysFinal "ViewRoundsModel" "ViewRoundsModel" "keptMany" "[I", .lays "ViewRoundsModel" "ViewRoundsModel" "history" "I", .laysFinal "ViewRoundsModel" "ViewRoundsModel" "differences" "[I", .lays "ViewRoundsModel" "ViewRoundsModel" "different" "I", .laysFinal "ViewRoundsModel" "ViewRoundsModel" "bound" "[I", .laysFinal "ViewRoundsModel" "ViewRoundsModel" "cursor" "[I", .laysFinal "ViewRoundsModel" "ViewRoundsModel" "positives" "[I", .lays "ViewRoundsModel" "ViewRoundsModel" "depth" "I", .lays "ViewRoundsModel" "ViewRoundsModel" "goals" "I", .lays "ViewRoundsModel" "ViewRoundsModel" "current" "I", .laysFinal "ViewRoundsModel" "ViewRoundsModel" "fresh" "[I", .laysFinal "ViewRoundsModel" "ViewRoundsModel" "freshCount" "[I"]
def z_W17 : List Cond := [.lays "ViewRoundsModel" "ViewRoundsModel" "freshMany" "I", .laysFinal "ViewRoundsModel" "ViewRoundsModel" "sums" "[I", .lays "ViewRoundsModel" "ViewRoundsModel" "summed" "I", .laysFinal "ViewRoundsModel" "ViewRoundsModel" "ringNames" "[I", .lays "ViewRoundsModel" "ViewRoundsModel" "ringSize" "I", .laysFinal "ViewRoundsModel" "ViewRoundsModel" "best" "[I", .arrayClass .boolean, .methodLink "ViewRoundsLaw" 19 ⟨"ViewRoundsModel", "feed", "(JI)I"⟩, .instanceMethod ⟨"ViewRoundsModel", "feed", "(JI)I"⟩, .selects "ViewRoundsModel" ⟨"ViewRoundsModel", "feed", "(JI)I"⟩ ⟨"ViewRoundsModel", "feed", "(JI)I"⟩, .code ⟨"ViewRoundsModel", "feed", "(JI)I"⟩ prog_10_method_44_code 5 (some .int), .methodLink "ViewRoundsModel" 271 ⟨"ViewRoundsModel", "isIn", "(III)Z"⟩, .static ⟨"ViewRoundsModel", "isIn", "(III)Z"⟩, .code ⟨"ViewRoundsModel", "isIn", "(III)Z"⟩ prog_10_method_2_code 3 (some .boolean), .methodLink "ViewRoundsLaw" 24 ⟨"ViewRoundsModel", "parse", "()I"⟩, .instanceMethod ⟨"ViewRoundsModel", "parse", "()I"⟩, .selects "ViewRoundsModel" ⟨"ViewRoundsModel", "parse", "()I"⟩ ⟨"ViewRoundsModel", "parse", "()I"⟩, .code ⟨"ViewRoundsModel", "parse", "()I"⟩ prog_10_method_46_code 3 (some .int), .methodLink "ViewRoundsModel" 283 ⟨"ViewRoundsModel", "forget", "()V"⟩, .instanceMethod ⟨"ViewRoundsModel", "forget", "()V"⟩, .code ⟨"ViewRoundsModel", "forget", "()V"⟩ prog_10_method_45_code 2 none, .methodLink "ViewRoundsModel" 289 ⟨"ViewRoundsModel", "rule", "()V"⟩, .instanceMethod ⟨"ViewRoundsModel", "rule", "()V"⟩, .code ⟨"ViewRoundsModel", "rule", "()V"⟩ prog_10_method_15_code 2 none, .methodLink "ViewRoundsModel" 127 ⟨"ViewRoundsModel", "sign", "()I"⟩, .instanceMethod ⟨"ViewRoundsModel", "sign", "()I"⟩, .code ⟨"ViewRoundsModel", "sign", "()I"⟩ prog_10_method_4_code 1 (some .int), .methodLink "ViewRoundsModel" 135 ⟨"ViewRoundsModel", "isName", "(I)Z"⟩, .static ⟨"ViewRoundsModel", "isName", "(I)Z"⟩, .code ⟨"ViewRoundsModel", "isName", "(I)Z"⟩ prog_10_method_7_code 1 (some .boolean), .methodLink "ViewRoundsModel" 131 ⟨"ViewRoundsModel", "wrong", "(I)V"⟩, .instanceMethod ⟨"ViewRoundsModel", "wrong", "(I)V"⟩, .code ⟨"ViewRoundsModel", "wrong", "(I)V"⟩ prog_10_method_3_code 2 none, .methodLink "ViewRoundsModel" 158 ⟨"ViewRoundsModel", "relationAt", "()I"⟩, .instanceMethod ⟨"ViewRoundsModel", "relationAt", "()I"⟩, .code ⟨"ViewRoundsModel", "relationAt", "()I"⟩ prog_10_method_10_code 3 (some .int), .methodLink "ViewRoundsModel" 161 ⟨"ViewRoundsModel", "terms", "(II[IIZ)V"⟩, .instanceMethod ⟨"ViewRoundsModel", "terms", "(II[IIZ)V"⟩, .code ⟨"ViewRoundsModel", "terms", "(II[IIZ)V"⟩ prog_10_method_12_code 10 none, .methodLink "ViewRoundsModel" 152 ⟨"ViewRoundsModel", "take", "(I)V"⟩]
def z_W18 : List Cond := [.instanceMethod ⟨"ViewRoundsModel", "take", "(I)V"⟩, .code ⟨"ViewRoundsModel", "take", "(I)V"⟩ prog_10_method_5_code 2 none, .methodLink "ViewRoundsModel" 155 ⟨"ViewRoundsModel", "term", "(I)I"⟩, .instanceMethod ⟨"ViewRoundsModel", "term", "(I)I"⟩, .code ⟨"ViewRoundsModel", "term", "(I)I"⟩ prog_10_method_11_code 5 (some .int), .methodLink "ViewRoundsModel" 142 ⟨"ViewRoundsModel", "isVariable", "(I)Z"⟩, .static ⟨"ViewRoundsModel", "isVariable", "(I)Z"⟩, .code ⟨"ViewRoundsModel", "isVariable", "(I)Z"⟩ prog_10_method_8_code 1 (some .boolean), .methodLink "ViewRoundsModel" 145 ⟨"ViewRoundsModel", "count", "(I)I"⟩, .static ⟨"ViewRoundsModel", "count", "(I)I"⟩, .code ⟨"ViewRoundsModel", "count", "(I)I"⟩ prog_10_method_6_code 3 (some .int), .methodLink "ViewRoundsModel" 149 ⟨"ViewRoundsModel", "isDigit", "(I)Z"⟩, .static ⟨"ViewRoundsModel", "isDigit", "(I)Z"⟩, .code ⟨"ViewRoundsModel", "isDigit", "(I)Z"⟩ prog_10_method_9_code 1 (some .boolean), .methodLink "ViewRoundsModel" 167 ⟨"ViewRoundsModel", "literal", "(I)V"⟩, .instanceMethod ⟨"ViewRoundsModel", "literal", "(I)V"⟩, .code ⟨"ViewRoundsModel", "literal", "(I)V"⟩ prog_10_method_13_code 8 none, .methodLink "ViewRoundsModel" 170 ⟨"ViewRoundsModel", "judge", "(I)V"⟩, .instanceMethod ⟨"ViewRoundsModel", "judge", "(I)V"⟩, .code ⟨"ViewRoundsModel", "judge", "(I)V"⟩ prog_10_method_16_code 7 none, .methodLink "ViewRoundsModel" 173 ⟨"ViewRoundsModel", "lettersOf", "([II)I"⟩, .static ⟨"ViewRoundsModel", "lettersOf", "([II)I"⟩, .code ⟨"ViewRoundsModel", "lettersOf", "([II)I"⟩ prog_10_method_14_code 4 (some .int), .methodLink "ViewRoundsModel" 292 ⟨"ViewRoundsModel", "reaches", "()V"⟩, .instanceMethod ⟨"ViewRoundsModel", "reaches", "()V"⟩, .code ⟨"ViewRoundsModel", "reaches", "()V"⟩ prog_10_method_19_code 4 none, .methodLink "ViewRoundsModel" 295 ⟨"ViewRoundsModel", "layers", "()Z"⟩, .instanceMethod ⟨"ViewRoundsModel", "layers", "()Z"⟩, .code ⟨"ViewRoundsModel", "layers", "()Z"⟩ prog_10_method_18_code 6 (some .boolean), .methodLink "ViewRoundsModel" 177 ⟨"ViewRoundsModel", "isStrict", "(II)Z"⟩, .instanceMethod ⟨"ViewRoundsModel", "isStrict", "(II)Z"⟩, .code ⟨"ViewRoundsModel", "isStrict", "(II)Z"⟩ prog_10_method_17_code 3 (some .boolean), .methodLink "ViewRoundsModel" 298 ⟨"ViewRoundsModel", "findRing", "()V"⟩, .instanceMethod ⟨"ViewRoundsModel", "findRing", "()V"⟩, .code ⟨"ViewRoundsModel", "findRing", "()V"⟩ prog_10_method_21_code 3 none, .methodLink "ViewRoundsModel" 181 ⟨"ViewRoundsModel", "isBadRing", "(I)Z"⟩, .instanceMethod ⟨"ViewRoundsModel", "isBadRing", "(I)Z"⟩, .code ⟨"ViewRoundsModel", "isBadRing", "(I)Z"⟩ prog_10_method_20_code 7 (some .boolean), .methodLink "ViewRoundsModel" 301 ⟨"ViewRoundsModel", "ringMany", "()V"⟩, .instanceMethod ⟨"ViewRoundsModel", "ringMany", "()V"⟩]
def z_W19 : List Cond := [.code ⟨"ViewRoundsModel", "ringMany", "()V"⟩ prog_10_method_47_code 2 none, .methodLink "ViewRoundsModel" 258 ⟨"ViewRoundsModel", "work", "()Z"⟩, .instanceMethod ⟨"ViewRoundsModel", "work", "()Z"⟩, .code ⟨"ViewRoundsModel", "work", "()Z"⟩ prog_10_method_37_code 5 (some .boolean), .methodLink "ViewRoundsModel" 239 ⟨"ViewRoundsModel", "countRule", "(I)Z"⟩, .instanceMethod ⟨"ViewRoundsModel", "countRule", "(I)Z"⟩, .code ⟨"ViewRoundsModel", "countRule", "(I)Z"⟩ prog_10_method_35_code 7 (some .boolean), .methodLink "ViewRoundsModel" 220 ⟨"ViewRoundsModel", "markOf", "(I)I"⟩, .instanceMethod ⟨"ViewRoundsModel", "markOf", "(I)I"⟩, .code ⟨"ViewRoundsModel", "markOf", "(I)I"⟩ prog_10_method_34_code 4 (some .int), .methodLink "ViewRoundsModel" 226 ⟨"ViewRoundsModel", "begin", "(I)V"⟩, .instanceMethod ⟨"ViewRoundsModel", "begin", "(I)V"⟩, .code ⟨"ViewRoundsModel", "begin", "(I)V"⟩ prog_10_method_28_code 3 none, .methodLink "ViewRoundsModel" 229 ⟨"ViewRoundsModel", "next", "()Z"⟩, .instanceMethod ⟨"ViewRoundsModel", "next", "()Z"⟩, .code ⟨"ViewRoundsModel", "next", "()Z"⟩ prog_10_method_32_code 3 (some .boolean), .methodLink "ViewRoundsModel" 212 ⟨"ViewRoundsModel", "holds", "()Z"⟩, .instanceMethod ⟨"ViewRoundsModel", "holds", "()Z"⟩, .code ⟨"ViewRoundsModel", "holds", "()Z"⟩ prog_10_method_31_code 5 (some .boolean), .methodLink "ViewRoundsModel" 205 ⟨"ViewRoundsModel", "valueOf", "(II)I"⟩, .instanceMethod ⟨"ViewRoundsModel", "valueOf", "(II)I"⟩, .code ⟨"ViewRoundsModel", "valueOf", "(II)I"⟩ prog_10_method_29_code 3 (some .int), .methodLink "ViewRoundsModel" 208 ⟨"ViewRoundsModel", "find", "(IIII)I"⟩, .instanceMethod ⟨"ViewRoundsModel", "find", "(IIII)I"⟩, .code ⟨"ViewRoundsModel", "find", "(IIII)I"⟩ prog_10_method_24_code 6 (some .int), .methodLink "ViewRoundsModel" 188 ⟨"ViewRoundsModel", "compare", "(IIIII)I"⟩, .instanceMethod ⟨"ViewRoundsModel", "compare", "(IIIII)I"⟩, .code ⟨"ViewRoundsModel", "compare", "(IIIII)I"⟩ prog_10_method_23_code 8 (some .int), .methodLink "ViewRoundsModel" 184 ⟨"ViewRoundsModel", "base", "(II)I"⟩, .instanceMethod ⟨"ViewRoundsModel", "base", "(II)I"⟩, .code ⟨"ViewRoundsModel", "base", "(II)I"⟩ prog_10_method_22_code 3 (some .int), .methodLink "ViewRoundsModel" 216 ⟨"ViewRoundsModel", "fits", "(III)Z"⟩, .instanceMethod ⟨"ViewRoundsModel", "fits", "(III)Z"⟩, .code ⟨"ViewRoundsModel", "fits", "(III)Z"⟩ prog_10_method_30_code 8 (some .boolean), .methodLink "ViewRoundsModel" 232 ⟨"ViewRoundsModel", "headValue", "(I)I"⟩, .instanceMethod ⟨"ViewRoundsModel", "headValue", "(I)I"⟩, .code ⟨"ViewRoundsModel", "headValue", "(I)I"⟩ prog_10_method_33_code 3 (some .int), .methodLink "ViewRoundsModel" 235 ⟨"ViewRoundsModel", "insert", "(IIIII)Z"⟩, .instanceMethod ⟨"ViewRoundsModel", "insert", "(IIIII)Z"⟩, .code ⟨"ViewRoundsModel", "insert", "(IIIII)Z"⟩ prog_10_method_25_code 8 (some .boolean)]
def z_W20 : List Cond := [.methodLink "ViewRoundsModel" 192 ⟨"ViewRoundsModel", "move", "(III)V"⟩, .instanceMethod ⟨"ViewRoundsModel", "move", "(III)V"⟩, .code ⟨"ViewRoundsModel", "move", "(III)V"⟩ prog_10_method_26_code 5 none, .methodLink "ViewRoundsModel" 242 ⟨"ViewRoundsModel", "plainRule", "(I)I"⟩, .instanceMethod ⟨"ViewRoundsModel", "plainRule", "(I)I"⟩, .code ⟨"ViewRoundsModel", "plainRule", "(I)I"⟩ prog_10_method_36_code 7 (some .int), .methodLink "ViewRoundsLaw" 28 ⟨"ViewRoundsModel", "place", "()I"⟩, .instanceMethod ⟨"ViewRoundsModel", "place", "()I"⟩, .selects "ViewRoundsModel" ⟨"ViewRoundsModel", "place", "()I"⟩ ⟨"ViewRoundsModel", "place", "()I"⟩, .code ⟨"ViewRoundsModel", "place", "()I"⟩ prog_10_method_48_code 1 (some .int), .methodLink "ViewRoundsLaw" 33 ⟨"ViewRoundsModel", "ring", "(I)I"⟩, .instanceMethod ⟨"ViewRoundsModel", "ring", "(I)I"⟩, .selects "ViewRoundsModel" ⟨"ViewRoundsModel", "ring", "(I)I"⟩ ⟨"ViewRoundsModel", "ring", "(I)I"⟩, .code ⟨"ViewRoundsModel", "ring", "(I)I"⟩ prog_10_method_49_code 2 (some .int), .methodLink "ViewRoundsLaw" 37 ⟨"ViewRoundsModel", "relation", "(I)I"⟩, .instanceMethod ⟨"ViewRoundsModel", "relation", "(I)I"⟩, .selects "ViewRoundsModel" ⟨"ViewRoundsModel", "relation", "(I)I"⟩ ⟨"ViewRoundsModel", "relation", "(I)I"⟩, .code ⟨"ViewRoundsModel", "relation", "(I)I"⟩ prog_10_method_50_code 3 (some .int), .methodLink "ViewRoundsLaw" 42 ⟨"ViewRoundsModel", "of", "(II)I"⟩, .instanceMethod ⟨"ViewRoundsModel", "of", "(II)I"⟩, .selects "ViewRoundsModel" ⟨"ViewRoundsModel", "of", "(II)I"⟩ ⟨"ViewRoundsModel", "of", "(II)I"⟩, .code ⟨"ViewRoundsModel", "of", "(II)I"⟩ prog_10_method_52_code 3 (some .int), .methodLink "ViewRoundsModel" 307 ⟨"ViewRoundsModel", "isRelation", "(I)Z"⟩, .instanceMethod ⟨"ViewRoundsModel", "isRelation", "(I)Z"⟩, .code ⟨"ViewRoundsModel", "isRelation", "(I)Z"⟩ prog_10_method_51_code 2 (some .boolean), .methodLink "ViewRoundsLaw" 47 ⟨"ViewRoundsModel", "change", "(IIIII)I"⟩, .instanceMethod ⟨"ViewRoundsModel", "change", "(IIIII)I"⟩, .selects "ViewRoundsModel" ⟨"ViewRoundsModel", "change", "(IIIII)I"⟩ ⟨"ViewRoundsModel", "change", "(IIIII)I"⟩, .code ⟨"ViewRoundsModel", "change", "(IIIII)I"⟩ prog_10_method_55_code 7 (some .int), .methodLink "ViewRoundsModel" 314 ⟨"ViewRoundsModel", "areValues", "(IIII)Z"⟩, .instanceMethod ⟨"ViewRoundsModel", "areValues", "(IIII)Z"⟩, .code ⟨"ViewRoundsModel", "areValues", "(IIII)Z"⟩ prog_10_method_54_code 5 (some .boolean), .methodLink "ViewRoundsModel" 310 ⟨"ViewRoundsModel", "given", "(III)I"⟩, .instanceMethod ⟨"ViewRoundsModel", "given", "(III)I"⟩, .code ⟨"ViewRoundsModel", "given", "(III)I"⟩ prog_10_method_53_code 4 (some .int), .methodLink "ViewRoundsLaw" 51 ⟨"ViewRoundsModel", "batch", "()I"⟩, .instanceMethod ⟨"ViewRoundsModel", "batch", "()I"⟩, .selects "ViewRoundsModel" ⟨"ViewRoundsModel", "batch", "()I"⟩ ⟨"ViewRoundsModel", "batch", "()I"⟩, .code ⟨"ViewRoundsModel", "batch", "()I"⟩ prog_10_method_56_code 4 (some .int), .methodLink "ViewRoundsModel" 318 ⟨"ViewRoundsModel", "sum", "([IIII)V"⟩]
def z_W21 : List Cond := [.instanceMethod ⟨"ViewRoundsModel", "sum", "([IIII)V"⟩, .code ⟨"ViewRoundsModel", "sum", "([IIII)V"⟩ prog_10_method_40_code 9 none, .methodLink "ViewRoundsModel" 322 ⟨"ViewRoundsModel", "apply", "()I"⟩, .instanceMethod ⟨"ViewRoundsModel", "apply", "()I"⟩, .code ⟨"ViewRoundsModel", "apply", "()I"⟩ prog_10_method_41_code 7 (some .int), .methodLink "ViewRoundsModel" 248 ⟨"ViewRoundsModel", "keep", "()V"⟩, .instanceMethod ⟨"ViewRoundsModel", "keep", "()V"⟩, .code ⟨"ViewRoundsModel", "keep", "()V"⟩ prog_10_method_38_code 2 none, .methodLink "ViewRoundsModel" 251 ⟨"ViewRoundsModel", "remove", "(II)V"⟩, .instanceMethod ⟨"ViewRoundsModel", "remove", "(II)V"⟩, .code ⟨"ViewRoundsModel", "remove", "(II)V"⟩ prog_10_method_27_code 4 none, .methodLink "ViewRoundsModel" 255 ⟨"ViewRoundsModel", "back", "()V"⟩, .instanceMethod ⟨"ViewRoundsModel", "back", "()V"⟩, .code ⟨"ViewRoundsModel", "back", "()V"⟩ prog_10_method_39_code 2 none, .methodLink "ViewRoundsModel" 261 ⟨"ViewRoundsModel", "compareAll", "()V"⟩, .instanceMethod ⟨"ViewRoundsModel", "compareAll", "()V"⟩, .code ⟨"ViewRoundsModel", "compareAll", "()V"⟩ prog_10_method_43_code 7 none, .methodLink "ViewRoundsModel" 267 ⟨"ViewRoundsModel", "differ", "(IIIII)V"⟩, .instanceMethod ⟨"ViewRoundsModel", "differ", "(IIIII)V"⟩, .code ⟨"ViewRoundsModel", "differ", "(IIIII)V"⟩ prog_10_method_42_code 7 none, .methodLink "ViewRoundsLaw" 55 ⟨"ViewRoundsModel", "drop", "()I"⟩, .instanceMethod ⟨"ViewRoundsModel", "drop", "()I"⟩, .selects "ViewRoundsModel" ⟨"ViewRoundsModel", "drop", "()I"⟩ ⟨"ViewRoundsModel", "drop", "()I"⟩, .code ⟨"ViewRoundsModel", "drop", "()I"⟩ prog_10_method_57_code 2 (some .int), .methodLink "ViewRoundsLaw" 59 ⟨"ViewRoundsModel", "difference", "(II)I"⟩, .instanceMethod ⟨"ViewRoundsModel", "difference", "(II)I"⟩, .selects "ViewRoundsModel" ⟨"ViewRoundsModel", "difference", "(II)I"⟩ ⟨"ViewRoundsModel", "difference", "(II)I"⟩, .code ⟨"ViewRoundsModel", "difference", "(II)I"⟩ prog_10_method_58_code 3 (some .int), .methodLink "ViewRoundsLaw" 63 ⟨"ViewRoundsModel", "undo", "()I"⟩, .instanceMethod ⟨"ViewRoundsModel", "undo", "()I"⟩, .selects "ViewRoundsModel" ⟨"ViewRoundsModel", "undo", "()I"⟩ ⟨"ViewRoundsModel", "undo", "()I"⟩, .code ⟨"ViewRoundsModel", "undo", "()I"⟩ prog_10_method_59_code 2 (some .int), .methodLink "ViewRoundsLaw" 68 ⟨"ViewRoundsModel", "has", "(IIII)I"⟩, .instanceMethod ⟨"ViewRoundsModel", "has", "(IIII)I"⟩, .selects "ViewRoundsModel" ⟨"ViewRoundsModel", "has", "(IIII)I"⟩ ⟨"ViewRoundsModel", "has", "(IIII)I"⟩, .code ⟨"ViewRoundsModel", "has", "(IIII)I"⟩ prog_10_method_60_code 6 (some .int), .methodLink "ViewRoundsLaw" 73 ⟨"ViewRoundsModel", "row", "(III)I"⟩, .instanceMethod ⟨"ViewRoundsModel", "row", "(III)I"⟩, .selects "ViewRoundsModel" ⟨"ViewRoundsModel", "row", "(III)I"⟩ ⟨"ViewRoundsModel", "row", "(III)I"⟩, .code ⟨"ViewRoundsModel", "row", "(III)I"⟩ prog_10_method_61_code 4 (some .int)]
def z_W22 : List Cond := [.methodLink "ViewRoundsLaw" 77 ⟨"ViewRoundsModel", "derivations", "(IIII)I"⟩, .instanceMethod ⟨"ViewRoundsModel", "derivations", "(IIII)I"⟩, .selects "ViewRoundsModel" ⟨"ViewRoundsModel", "derivations", "(IIII)I"⟩ ⟨"ViewRoundsModel", "derivations", "(IIII)I"⟩, .code ⟨"ViewRoundsModel", "derivations", "(IIII)I"⟩ prog_10_method_64_code 9 (some .int), .methodLink "ViewRoundsModel" 325 ⟨"ViewRoundsModel", "isCounted", "(I)Z"⟩, .instanceMethod ⟨"ViewRoundsModel", "isCounted", "(I)Z"⟩, .code ⟨"ViewRoundsModel", "isCounted", "(I)Z"⟩ prog_10_method_62_code 4 (some .boolean), .methodLink "ViewRoundsModel" 328 ⟨"ViewRoundsModel", "leads", "(III)Z"⟩, .instanceMethod ⟨"ViewRoundsModel", "leads", "(III)Z"⟩, .code ⟨"ViewRoundsModel", "leads", "(III)Z"⟩ prog_10_method_63_code 4 (some .boolean), .methodLink "ViewRoundsLaw" 81 ⟨"ViewRoundsModel", "why", "(IIIII)I"⟩, .instanceMethod ⟨"ViewRoundsModel", "why", "(IIIII)I"⟩, .selects "ViewRoundsModel" ⟨"ViewRoundsModel", "why", "(IIIII)I"⟩ ⟨"ViewRoundsModel", "why", "(IIIII)I"⟩, .code ⟨"ViewRoundsModel", "why", "(IIIII)I"⟩ prog_10_method_66_code 11 (some .int), .methodLink "ViewRoundsModel" 331 ⟨"ViewRoundsModel", "isLess", "()Z"⟩, .instanceMethod ⟨"ViewRoundsModel", "isLess", "()Z"⟩, .code ⟨"ViewRoundsModel", "isLess", "()Z"⟩ prog_10_method_65_code 3 (some .boolean), .methodLink "ViewRoundsModel" 334 ⟨"ViewRoundsModel", "tell", "(II)I"⟩, .instanceMethod ⟨"ViewRoundsModel", "tell", "(II)I"⟩, .code ⟨"ViewRoundsModel", "tell", "(II)I"⟩ prog_10_method_67_code 6 (some .int), .methodLink "ViewRoundsLaw" 86 ⟨"ViewRoundsModel", "anew", "()Z"⟩, .instanceMethod ⟨"ViewRoundsModel", "anew", "()Z"⟩, .selects "ViewRoundsModel" ⟨"ViewRoundsModel", "anew", "()Z"⟩ ⟨"ViewRoundsModel", "anew", "()Z"⟩, .code ⟨"ViewRoundsModel", "anew", "()Z"⟩ prog_10_method_68_code 1 (some .boolean), .methodLink "ViewRoundsLaw" 90 ⟨"ViewRoundsModel", "told", "(I)I"⟩, .instanceMethod ⟨"ViewRoundsModel", "told", "(I)I"⟩, .selects "ViewRoundsModel" ⟨"ViewRoundsModel", "told", "(I)I"⟩ ⟨"ViewRoundsModel", "told", "(I)I"⟩, .code ⟨"ViewRoundsModel", "told", "(I)I"⟩ prog_10_method_69_code 4 (some .int), .constantLong "ViewRoundsLaw" 13 (4294967295 : Int64), .selects "ViewRounds$Reader" ⟨"ViewRounds$Reader", "sign", "()I"⟩ ⟨"ViewRounds$Reader", "sign", "()I"⟩, .selects "ViewRounds$Reader" ⟨"ViewRounds$Reader", "readRule", "()Z"⟩ ⟨"ViewRounds$Reader", "readRule", "()Z"⟩, .selects "ViewRounds$Reader" ⟨"ViewRounds$Reader", "fail", "(I)Z"⟩ ⟨"ViewRounds$Reader", "fail", "(I)Z"⟩, .selects "ViewRounds$Reader" ⟨"ViewRounds$Reader", "readNamed", "(LViewRounds$Atom;Z)Z"⟩ ⟨"ViewRounds$Reader", "readNamed", "(LViewRounds$Atom;Z)Z"⟩, .selects "ViewRounds$Reader" ⟨"ViewRounds$Reader", "takes", "(I)Z"⟩ ⟨"ViewRounds$Reader", "takes", "(I)Z"⟩, .selects "ViewRounds$Reader" ⟨"ViewRounds$Reader", "readTerm", "(LViewRounds$Atom;Z)Z"⟩ ⟨"ViewRounds$Reader", "readTerm", "(LViewRounds$Atom;Z)Z"⟩, .selects "ViewRounds$Reader" ⟨"ViewRounds$Reader", "readNumber", "()I"⟩ ⟨"ViewRounds$Reader", "readNumber", "()I"⟩, .selects "ViewRounds$Reader" ⟨"ViewRounds$Reader", "closeRule", "()Z"⟩ ⟨"ViewRounds$Reader", "closeRule", "()Z"⟩, .selects "ViewRounds$Rule" ⟨"ViewRounds$Rule", "nextLiteral", "(II)I"⟩ ⟨"ViewRounds$Rule", "nextLiteral", "(II)I"⟩, .selects "ViewRounds$Reader" ⟨"ViewRounds$Reader", "readLiteral", "()Z"⟩ ⟨"ViewRounds$Reader", "readLiteral", "()Z"⟩, .selects "ViewRounds$Reader" ⟨"ViewRounds$Reader", "readOperator", "(LViewRounds$Atom;)Z"⟩ ⟨"ViewRounds$Reader", "readOperator", "(LViewRounds$Atom;)Z"⟩]
def z_W23 : List Cond := [.selects "ViewRounds$Program" ⟨"ViewRounds$Program", "findReach", "()V"⟩ ⟨"ViewRounds$Program", "findReach", "()V"⟩, .selects "ViewRounds$Program" ⟨"ViewRounds$Program", "findRing", "()V"⟩ ⟨"ViewRounds$Program", "findRing", "()V"⟩, .selects "ViewRounds$Program" ⟨"ViewRounds$Program", "mustLieBelow", "(LViewRounds$Rule;LViewRounds$Atom;)Z"⟩ ⟨"ViewRounds$Program", "mustLieBelow", "(LViewRounds$Rule;LViewRounds$Atom;)Z"⟩, .selects "ViewRounds$Program" ⟨"ViewRounds$Program", "ringThrough", "(I)I"⟩ ⟨"ViewRounds$Program", "ringThrough", "(I)I"⟩, .selects "ViewRounds$Program" ⟨"ViewRounds$Program", "chooseRing", "(I)V"⟩ ⟨"ViewRounds$Program", "chooseRing", "(I)V"⟩, .selects "ViewRounds$Program" ⟨"ViewRounds$Program", "raiseLayers", "()V"⟩ ⟨"ViewRounds$Program", "raiseLayers", "()V"⟩, .selects "ViewRounds" ⟨"ViewRounds", "forgetRules", "()V"⟩ ⟨"ViewRounds", "forgetRules", "()V"⟩, .selects "ViewRounds" ⟨"ViewRounds", "keepFault", "(LViewRounds$Reader;)V"⟩ ⟨"ViewRounds", "keepFault", "(LViewRounds$Reader;)V"⟩, .selects "ViewRounds$Engine" ⟨"ViewRounds$Engine", "begin", "(LViewRounds$Program;[LViewRounds$Rows;I)V"⟩ ⟨"ViewRounds$Engine", "begin", "(LViewRounds$Program;[LViewRounds$Rows;I)V"⟩, .selects "ViewRounds$Engine" ⟨"ViewRounds$Engine", "seed", "(I)V"⟩ ⟨"ViewRounds$Engine", "seed", "(I)V"⟩, .selects "ViewRounds$Engine" ⟨"ViewRounds$Engine", "usesLayer", "(I)Z"⟩ ⟨"ViewRounds$Engine", "usesLayer", "(I)Z"⟩, .selects "ViewRounds$Engine" ⟨"ViewRounds$Engine", "solve", "(I)V"⟩ ⟨"ViewRounds$Engine", "solve", "(I)V"⟩, .selects "ViewRounds$Engine" ⟨"ViewRounds$Engine", "isNothingNew", "()Z"⟩ ⟨"ViewRounds$Engine", "isNothingNew", "()Z"⟩, .selects "ViewRounds$Engine" ⟨"ViewRounds$Engine", "keyOf", "(LViewRounds$Atom;)I"⟩ ⟨"ViewRounds$Engine", "keyOf", "(LViewRounds$Atom;)I"⟩, .selects "ViewRounds$Engine" ⟨"ViewRounds$Engine", "valueOf", "(I)I"⟩ ⟨"ViewRounds$Engine", "valueOf", "(I)I"⟩, .selects "ViewRounds$Engine" ⟨"ViewRounds$Engine", "found", "()V"⟩ ⟨"ViewRounds$Engine", "found", "()V"⟩, .selects "ViewRounds$Engine" ⟨"ViewRounds$Engine", "enqueue", "(II)V"⟩ ⟨"ViewRounds$Engine", "enqueue", "(II)V"⟩, .selects "ViewRounds$Engine" ⟨"ViewRounds$Engine", "isLess", "()Z"⟩ ⟨"ViewRounds$Engine", "isLess", "()Z"⟩, .selects "ViewRounds$Engine" ⟨"ViewRounds$Engine", "keepValues", "()V"⟩ ⟨"ViewRounds$Engine", "keepValues", "()V"⟩, .selects "ViewRounds$Engine" ⟨"ViewRounds$Engine", "holds", "(LViewRounds$Atom;)Z"⟩ ⟨"ViewRounds$Engine", "holds", "(LViewRounds$Atom;)Z"⟩, .selects "ViewRounds$Engine" ⟨"ViewRounds$Engine", "isKnown", "(I)Z"⟩ ⟨"ViewRounds$Engine", "isKnown", "(I)Z"⟩, .selects "ViewRounds$Engine" ⟨"ViewRounds$Engine", "matches", "(LViewRounds$Atom;I)Z"⟩ ⟨"ViewRounds$Engine", "matches", "(LViewRounds$Atom;I)Z"⟩, .selects "ViewRounds$Engine" ⟨"ViewRounds$Engine", "closeCounts", "()V"⟩ ⟨"ViewRounds$Engine", "closeCounts", "()V"⟩, .selects "ViewRounds$Engine" ⟨"ViewRounds$Engine", "spread", "(I)V"⟩ ⟨"ViewRounds$Engine", "spread", "(I)V"⟩, .selects "ViewRounds" ⟨"ViewRounds", "takeNext", "()V"⟩ ⟨"ViewRounds", "takeNext", "()V"⟩, .selects "ViewRounds" ⟨"ViewRounds", "hasNoRules", "()Z"⟩ ⟨"ViewRounds", "hasNoRules", "()Z"⟩, .selects "ViewRounds" ⟨"ViewRounds", "settle", "(LViewRounds$SignedRows;I)I"⟩ ⟨"ViewRounds", "settle", "(LViewRounds$SignedRows;I)I"⟩, .selects "ViewRounds" ⟨"ViewRounds", "copyTables", "()V"⟩ ⟨"ViewRounds", "copyTables", "()V"⟩, .selects "ViewRounds" ⟨"ViewRounds", "noteDifferences", "(ILViewRounds$Rows;LViewRounds$Rows;)V"⟩ ⟨"ViewRounds", "noteDifferences", "(ILViewRounds$Rows;LViewRounds$Rows;)V"⟩, .selects "ViewRounds" ⟨"ViewRounds", "keepForTakingBack", "()V"⟩ ⟨"ViewRounds", "keepForTakingBack", "()V"⟩, .selects "ViewRounds$Engine" ⟨"ViewRounds$Engine", "solveFor", "(III)V"⟩ ⟨"ViewRounds$Engine", "solveFor", "(III)V"⟩, .selects "ViewRounds" ⟨"ViewRounds", "viewsAreTheSame", "()Z"⟩ ⟨"ViewRounds", "viewsAreTheSame", "()Z"⟩, .selects "ViewRoundsModel" ⟨"ViewRoundsModel", "forget", "()V"⟩ ⟨"ViewRoundsModel", "forget", "()V"⟩, .selects "ViewRoundsModel" ⟨"ViewRoundsModel", "rule", "()V"⟩ ⟨"ViewRoundsModel", "rule", "()V"⟩, .selects "ViewRoundsModel" ⟨"ViewRoundsModel", "sign", "()I"⟩ ⟨"ViewRoundsModel", "sign", "()I"⟩, .selects "ViewRoundsModel" ⟨"ViewRoundsModel", "wrong", "(I)V"⟩ ⟨"ViewRoundsModel", "wrong", "(I)V"⟩, .selects "ViewRoundsModel" ⟨"ViewRoundsModel", "relationAt", "()I"⟩ ⟨"ViewRoundsModel", "relationAt", "()I"⟩, .selects "ViewRoundsModel" ⟨"ViewRoundsModel", "terms", "(II[IIZ)V"⟩ ⟨"ViewRoundsModel", "terms", "(II[IIZ)V"⟩, .selects "ViewRoundsModel" ⟨"ViewRoundsModel", "take", "(I)V"⟩ ⟨"ViewRoundsModel", "take", "(I)V"⟩, .selects "ViewRoundsModel" ⟨"ViewRoundsModel", "term", "(I)I"⟩ ⟨"ViewRoundsModel", "term", "(I)I"⟩]
def z_W24 : List Cond := [.selects "ViewRoundsModel" ⟨"ViewRoundsModel", "literal", "(I)V"⟩ ⟨"ViewRoundsModel", "literal", "(I)V"⟩, .selects "ViewRoundsModel" ⟨"ViewRoundsModel", "judge", "(I)V"⟩ ⟨"ViewRoundsModel", "judge", "(I)V"⟩, .selects "ViewRoundsModel" ⟨"ViewRoundsModel", "reaches", "()V"⟩ ⟨"ViewRoundsModel", "reaches", "()V"⟩, .selects "ViewRoundsModel" ⟨"ViewRoundsModel", "layers", "()Z"⟩ ⟨"ViewRoundsModel", "layers", "()Z"⟩, .selects "ViewRoundsModel" ⟨"ViewRoundsModel", "isStrict", "(II)Z"⟩ ⟨"ViewRoundsModel", "isStrict", "(II)Z"⟩, .selects "ViewRoundsModel" ⟨"ViewRoundsModel", "findRing", "()V"⟩ ⟨"ViewRoundsModel", "findRing", "()V"⟩, .selects "ViewRoundsModel" ⟨"ViewRoundsModel", "isBadRing", "(I)Z"⟩ ⟨"ViewRoundsModel", "isBadRing", "(I)Z"⟩, .selects "ViewRoundsModel" ⟨"ViewRoundsModel", "ringMany", "()V"⟩ ⟨"ViewRoundsModel", "ringMany", "()V"⟩, .selects "ViewRoundsModel" ⟨"ViewRoundsModel", "work", "()Z"⟩ ⟨"ViewRoundsModel", "work", "()Z"⟩, .selects "ViewRoundsModel" ⟨"ViewRoundsModel", "countRule", "(I)Z"⟩ ⟨"ViewRoundsModel", "countRule", "(I)Z"⟩, .selects "ViewRoundsModel" ⟨"ViewRoundsModel", "markOf", "(I)I"⟩ ⟨"ViewRoundsModel", "markOf", "(I)I"⟩, .selects "ViewRoundsModel" ⟨"ViewRoundsModel", "begin", "(I)V"⟩ ⟨"ViewRoundsModel", "begin", "(I)V"⟩, .selects "ViewRoundsModel" ⟨"ViewRoundsModel", "next", "()Z"⟩ ⟨"ViewRoundsModel", "next", "()Z"⟩, .selects "ViewRoundsModel" ⟨"ViewRoundsModel", "holds", "()Z"⟩ ⟨"ViewRoundsModel", "holds", "()Z"⟩, .selects "ViewRoundsModel" ⟨"ViewRoundsModel", "valueOf", "(II)I"⟩ ⟨"ViewRoundsModel", "valueOf", "(II)I"⟩, .selects "ViewRoundsModel" ⟨"ViewRoundsModel", "find", "(IIII)I"⟩ ⟨"ViewRoundsModel", "find", "(IIII)I"⟩, .selects "ViewRoundsModel" ⟨"ViewRoundsModel", "compare", "(IIIII)I"⟩ ⟨"ViewRoundsModel", "compare", "(IIIII)I"⟩, .selects "ViewRoundsModel" ⟨"ViewRoundsModel", "base", "(II)I"⟩ ⟨"ViewRoundsModel", "base", "(II)I"⟩, .selects "ViewRoundsModel" ⟨"ViewRoundsModel", "fits", "(III)Z"⟩ ⟨"ViewRoundsModel", "fits", "(III)Z"⟩, .selects "ViewRoundsModel" ⟨"ViewRoundsModel", "headValue", "(I)I"⟩ ⟨"ViewRoundsModel", "headValue", "(I)I"⟩, .selects "ViewRoundsModel" ⟨"ViewRoundsModel", "insert", "(IIIII)Z"⟩ ⟨"ViewRoundsModel", "insert", "(IIIII)Z"⟩, .selects "ViewRoundsModel" ⟨"ViewRoundsModel", "move", "(III)V"⟩ ⟨"ViewRoundsModel", "move", "(III)V"⟩, .selects "ViewRoundsModel" ⟨"ViewRoundsModel", "plainRule", "(I)I"⟩ ⟨"ViewRoundsModel", "plainRule", "(I)I"⟩, .selects "ViewRoundsModel" ⟨"ViewRoundsModel", "isRelation", "(I)Z"⟩ ⟨"ViewRoundsModel", "isRelation", "(I)Z"⟩, .selects "ViewRoundsModel" ⟨"ViewRoundsModel", "areValues", "(IIII)Z"⟩ ⟨"ViewRoundsModel", "areValues", "(IIII)Z"⟩, .selects "ViewRoundsModel" ⟨"ViewRoundsModel", "given", "(III)I"⟩ ⟨"ViewRoundsModel", "given", "(III)I"⟩, .selects "ViewRoundsModel" ⟨"ViewRoundsModel", "sum", "([IIII)V"⟩ ⟨"ViewRoundsModel", "sum", "([IIII)V"⟩, .selects "ViewRoundsModel" ⟨"ViewRoundsModel", "apply", "()I"⟩ ⟨"ViewRoundsModel", "apply", "()I"⟩, .selects "ViewRoundsModel" ⟨"ViewRoundsModel", "keep", "()V"⟩ ⟨"ViewRoundsModel", "keep", "()V"⟩, .selects "ViewRoundsModel" ⟨"ViewRoundsModel", "remove", "(II)V"⟩ ⟨"ViewRoundsModel", "remove", "(II)V"⟩, .selects "ViewRoundsModel" ⟨"ViewRoundsModel", "back", "()V"⟩ ⟨"ViewRoundsModel", "back", "()V"⟩, .selects "ViewRoundsModel" ⟨"ViewRoundsModel", "compareAll", "()V"⟩ ⟨"ViewRoundsModel", "compareAll", "()V"⟩, .selects "ViewRoundsModel" ⟨"ViewRoundsModel", "differ", "(IIIII)V"⟩ ⟨"ViewRoundsModel", "differ", "(IIIII)V"⟩, .selects "ViewRoundsModel" ⟨"ViewRoundsModel", "isCounted", "(I)Z"⟩ ⟨"ViewRoundsModel", "isCounted", "(I)Z"⟩, .selects "ViewRoundsModel" ⟨"ViewRoundsModel", "leads", "(III)Z"⟩ ⟨"ViewRoundsModel", "leads", "(III)Z"⟩, .selects "ViewRoundsModel" ⟨"ViewRoundsModel", "isLess", "()Z"⟩ ⟨"ViewRoundsModel", "isLess", "()Z"⟩, .selects "ViewRoundsModel" ⟨"ViewRoundsModel", "tell", "(II)I"⟩ ⟨"ViewRoundsModel", "tell", "(II)I"⟩]
def z_W : List Cond := z_W0 ++ (z_W1 ++ (z_W2 ++ (z_W3 ++ (z_W4 ++ (z_W5 ++ (z_W6 ++ (z_W7 ++ (z_W8 ++ (z_W9 ++ (z_W10 ++ (z_W11 ++ (z_W12 ++ (z_W13 ++ (z_W14 ++ (z_W15 ++ (z_W16 ++ (z_W17 ++ (z_W18 ++ (z_W19 ++ (z_W20 ++ (z_W21 ++ (z_W22 ++ (z_W23 ++ (z_W24))))))))))))))))))))))))
theorem z_Win0 {w : Cond} (h : w ∈ z_W0) : w ∈ z_W := by unfold z_W; exact List.mem_append_left _ h
theorem z_Win1 {w : Cond} (h : w ∈ z_W1) : w ∈ z_W := by unfold z_W; exact List.mem_append_right _ (List.mem_append_left _ h)
theorem z_Win2 {w : Cond} (h : w ∈ z_W2) : w ∈ z_W := by unfold z_W; exact List.mem_append_right _ (List.mem_append_right _ (List.mem_append_left _ h))
theorem z_Win3 {w : Cond} (h : w ∈ z_W3) : w ∈ z_W := by unfold z_W; exact List.mem_append_right _ (List.mem_append_right _ (List.mem_append_right _ (List.mem_append_left _ h)))
theorem z_Win4 {w : Cond} (h : w ∈ z_W4) : w ∈ z_W := by unfold z_W; exact List.mem_append_right _ (List.mem_append_right _ (List.mem_append_right _ (List.mem_append_right _ (List.mem_append_left _ h))))
theorem z_Win5 {w : Cond} (h : w ∈ z_W5) : w ∈ z_W := by unfold z_W; exact List.mem_append_right _ (List.mem_append_right _ (List.mem_append_right _ (List.mem_append_right _ (List.mem_append_right _ (List.mem_append_left _ h)))))
theorem z_Win6 {w : Cond} (h : w ∈ z_W6) : w ∈ z_W := by unfold z_W; exact List.mem_append_right _ (List.mem_append_right _ (List.mem_append_right _ (List.mem_append_right _ (List.mem_append_right _ (List.mem_append_right _ (List.mem_append_left _ h))))))
theorem z_Win7 {w : Cond} (h : w ∈ z_W7) : w ∈ z_W := by unfold z_W; exact List.mem_append_right _ (List.mem_append_right _ (List.mem_append_right _ (List.mem_append_right _ (List.mem_append_right _ (List.mem_append_right _ (List.mem_append_right _ (List.mem_append_left _ h)))))))
theorem z_Win8 {w : Cond} (h : w ∈ z_W8) : w ∈ z_W := by unfold z_W; exact List.mem_append_right _ (List.mem_append_right _ (List.mem_append_right _ (List.mem_append_right _ (List.mem_append_right _ (List.mem_append_right _ (List.mem_append_right _ (List.mem_append_right _ (List.mem_append_left _ h))))))))
theorem z_Win9 {w : Cond} (h : w ∈ z_W9) : w ∈ z_W := by unfold z_W; exact List.mem_append_right _ (List.mem_append_right _ (List.mem_append_right _ (List.mem_append_right _ (List.mem_append_right _ (List.mem_append_right _ (List.mem_append_right _ (List.mem_append_right _ (List.mem_append_right _ (List.mem_append_left _ h)))))))))
theorem z_Win10 {w : Cond} (h : w ∈ z_W10) : w ∈ z_W := by unfold z_W; exact List.mem_append_right _ (List.mem_append_right _ (List.mem_append_right _ (List.mem_append_right _ (List.mem_append_right _ (List.mem_append_right _ (List.mem_append_right _ (List.mem_append_right _ (List.mem_append_right _ (List.mem_append_right _ (List.mem_append_left _ h))))))))))
theorem z_Win11 {w : Cond} (h : w ∈ z_W11) : w ∈ z_W := by unfold z_W; exact List.mem_append_right _ (List.mem_append_right _ (List.mem_append_right _ (List.mem_append_right _ (List.mem_append_right _ (List.mem_append_right _ (List.mem_append_right _ (List.mem_append_right _ (List.mem_append_right _ (List.mem_append_right _ (List.mem_append_right _ (List.mem_append_left _ h)))))))))))
theorem z_Win12 {w : Cond} (h : w ∈ z_W12) : w ∈ z_W := by unfold z_W; exact List.mem_append_right _ (List.mem_append_right _ (List.mem_append_right _ (List.mem_append_right _ (List.mem_append_right _ (List.mem_append_right _ (List.mem_append_right _ (List.mem_append_right _ (List.mem_append_right _ (List.mem_append_right _ (List.mem_append_right _ (List.mem_append_right _ (List.mem_append_left _ h))))))))))))
theorem z_Win13 {w : Cond} (h : w ∈ z_W13) : w ∈ z_W := by unfold z_W; exact List.mem_append_right _ (List.mem_append_right _ (List.mem_append_right _ (List.mem_append_right _ (List.mem_append_right _ (List.mem_append_right _ (List.mem_append_right _ (List.mem_append_right _ (List.mem_append_right _ (List.mem_append_right _ (List.mem_append_right _ (List.mem_append_right _ (List.mem_append_right _ (List.mem_append_left _ h)))))))))))))
theorem z_Win14 {w : Cond} (h : w ∈ z_W14) : w ∈ z_W := by unfold z_W; exact List.mem_append_right _ (List.mem_append_right _ (List.mem_append_right _ (List.mem_append_right _ (List.mem_append_right _ (List.mem_append_right _ (List.mem_append_right _ (List.mem_append_right _ (List.mem_append_right _ (List.mem_append_right _ (List.mem_append_right _ (List.mem_append_right _ (List.mem_append_right _ (List.mem_append_right _ (List.mem_append_left _ h))))))))))))))
theorem z_Win15 {w : Cond} (h : w ∈ z_W15) : w ∈ z_W := by unfold z_W; exact List.mem_append_right _ (List.mem_append_right _ (List.mem_append_right _ (List.mem_append_right _ (List.mem_append_right _ (List.mem_append_right _ (List.mem_append_right _ (List.mem_append_right _ (List.mem_append_right _ (List.mem_append_right _ (List.mem_append_right _ (List.mem_append_right _ (List.mem_append_right _ (List.mem_append_right _ (List.mem_append_right _ (List.mem_append_left _ h)))))))))))))))
theorem z_Win16 {w : Cond} (h : w ∈ z_W16) : w ∈ z_W := by unfold z_W; exact List.mem_append_right _ (List.mem_append_right _ (List.mem_append_right _ (List.mem_append_right _ (List.mem_append_right _ (List.mem_append_right _ (List.mem_append_right _ (List.mem_append_right _ (List.mem_append_right _ (List.mem_append_right _ (List.mem_append_right _ (List.mem_append_right _ (List.mem_append_right _ (List.mem_append_right _ (List.mem_append_right _ (List.mem_append_right _ (List.mem_append_left _ h))))))))))))))))
theorem z_Win17 {w : Cond} (h : w ∈ z_W17) : w ∈ z_W := by unfold z_W; exact List.mem_append_right _ (List.mem_append_right _ (List.mem_append_right _ (List.mem_append_right _ (List.mem_append_right _ (List.mem_append_right _ (List.mem_append_right _ (List.mem_append_right _ (List.mem_append_right _ (List.mem_append_right _ (List.mem_append_right _ (List.mem_append_right _ (List.mem_append_right _ (List.mem_append_right _ (List.mem_append_right _ (List.mem_append_right _ (List.mem_append_right _ (List.mem_append_left _ h)))))))))))))))))
theorem z_Win18 {w : Cond} (h : w ∈ z_W18) : w ∈ z_W := by unfold z_W; exact List.mem_append_right _ (List.mem_append_right _ (List.mem_append_right _ (List.mem_append_right _ (List.mem_append_right _ (List.mem_append_right _ (List.mem_append_right _ (List.mem_append_right _ (List.mem_append_right _ (List.mem_append_right _ (List.mem_append_right _ (List.mem_append_right _ (List.mem_append_right _ (List.mem_append_right _ (List.mem_append_right _ (List.mem_append_right _ (List.mem_append_right _ (List.mem_append_right _ (List.mem_append_left _ h))))))))))))))))))
theorem z_Win19 {w : Cond} (h : w ∈ z_W19) : w ∈ z_W := by unfold z_W; exact List.mem_append_right _ (List.mem_append_right _ (List.mem_append_right _ (List.mem_append_right _ (List.mem_append_right _ (List.mem_append_right _ (List.mem_append_right _ (List.mem_append_right _ (List.mem_append_right _ (List.mem_append_right _ (List.mem_append_right _ (List.mem_append_right _ (List.mem_append_right _ (List.mem_append_right _ (List.mem_append_right _ (List.mem_append_right _ (List.mem_append_right _ (List.mem_append_right _ (List.mem_append_right _ (List.mem_append_left _ h)))))))))))))))))))
theorem z_Win20 {w : Cond} (h : w ∈ z_W20) : w ∈ z_W := by unfold z_W; exact List.mem_append_right _ (List.mem_append_right _ (List.mem_append_right _ (List.mem_append_right _ (List.mem_append_right _ (List.mem_append_right _ (List.mem_append_right _ (List.mem_append_right _ (List.mem_append_right _ (List.mem_append_right _ (List.mem_append_right _ (List.mem_append_right _ (List.mem_append_right _ (List.mem_append_right _ (List.mem_append_right _ (List.mem_append_right _ (List.mem_append_right _ (List.mem_append_right _ (List.mem_append_right _ (List.mem_append_right _ (List.mem_append_left _ h))))))))))))))))))))
theorem z_Win21 {w : Cond} (h : w ∈ z_W21) : w ∈ z_W := by unfold z_W; exact List.mem_append_right _ (List.mem_append_right _ (List.mem_append_right _ (List.mem_append_right _ (List.mem_append_right _ (List.mem_append_right _ (List.mem_append_right _ (List.mem_append_right _ (List.mem_append_right _ (List.mem_append_right _ (List.mem_append_right _ (List.mem_append_right _ (List.mem_append_right _ (List.mem_append_right _ (List.mem_append_right _ (List.mem_append_right _ (List.mem_append_right _ (List.mem_append_right _ (List.mem_append_right _ (List.mem_append_right _ (List.mem_append_right _ (List.mem_append_left _ h)))))))))))))))))))))
theorem z_Win22 {w : Cond} (h : w ∈ z_W22) : w ∈ z_W := by unfold z_W; exact List.mem_append_right _ (List.mem_append_right _ (List.mem_append_right _ (List.mem_append_right _ (List.mem_append_right _ (List.mem_append_right _ (List.mem_append_right _ (List.mem_append_right _ (List.mem_append_right _ (List.mem_append_right _ (List.mem_append_right _ (List.mem_append_right _ (List.mem_append_right _ (List.mem_append_right _ (List.mem_append_right _ (List.mem_append_right _ (List.mem_append_right _ (List.mem_append_right _ (List.mem_append_right _ (List.mem_append_right _ (List.mem_append_right _ (List.mem_append_right _ (List.mem_append_left _ h))))))))))))))))))))))
theorem z_Win23 {w : Cond} (h : w ∈ z_W23) : w ∈ z_W := by unfold z_W; exact List.mem_append_right _ (List.mem_append_right _ (List.mem_append_right _ (List.mem_append_right _ (List.mem_append_right _ (List.mem_append_right _ (List.mem_append_right _ (List.mem_append_right _ (List.mem_append_right _ (List.mem_append_right _ (List.mem_append_right _ (List.mem_append_right _ (List.mem_append_right _ (List.mem_append_right _ (List.mem_append_right _ (List.mem_append_right _ (List.mem_append_right _ (List.mem_append_right _ (List.mem_append_right _ (List.mem_append_right _ (List.mem_append_right _ (List.mem_append_right _ (List.mem_append_right _ (List.mem_append_left _ h)))))))))))))))))))))))
theorem z_Win24 {w : Cond} (h : w ∈ z_W24) : w ∈ z_W := by unfold z_W; exact List.mem_append_right _ (List.mem_append_right _ (List.mem_append_right _ (List.mem_append_right _ (List.mem_append_right _ (List.mem_append_right _ (List.mem_append_right _ (List.mem_append_right _ (List.mem_append_right _ (List.mem_append_right _ (List.mem_append_right _ (List.mem_append_right _ (List.mem_append_right _ (List.mem_append_right _ (List.mem_append_right _ (List.mem_append_right _ (List.mem_append_right _ (List.mem_append_right _ (List.mem_append_right _ (List.mem_append_right _ (List.mem_append_right _ (List.mem_append_right _ (List.mem_append_right _ (List.mem_append_right _ (h))))))))))))))))))))))))
theorem z_Wg0 : z_W0.all goodWord = true := by decide +kernel
theorem z_Wg1 : z_W1.all goodWord = true := by decide +kernel
theorem z_Wg2 : z_W2.all goodWord = true := by decide +kernel
theorem z_Wg3 : z_W3.all goodWord = true := by decide +kernel
theorem z_Wg4 : z_W4.all goodWord = true := by decide +kernel
theorem z_Wg5 : z_W5.all goodWord = true := by decide +kernel
theorem z_Wg6 : z_W6.all goodWord = true := by decide +kernel
theorem z_Wg7 : z_W7.all goodWord = true := by decide +kernel
theorem z_Wg8 : z_W8.all goodWord = true := by decide +kernel
theorem z_Wg9 : z_W9.all goodWord = true := by decide +kernel
theorem z_Wg10 : z_W10.all goodWord = true := by decide +kernel
theorem z_Wg11 : z_W11.all goodWord = true := by decide +kernel
theorem z_Wg12 : z_W12.all goodWord = true := by decide +kernel
theorem z_Wg13 : z_W13.all goodWord = true := by decide +kernel
theorem z_Wg14 : z_W14.all goodWord = true := by decide +kernel
theorem z_Wg15 : z_W15.all goodWord = true := by decide +kernel
theorem z_Wg16 : z_W16.all goodWord = true := by decide +kernel
theorem z_Wg17 : z_W17.all goodWord = true := by decide +kernel
theorem z_Wg18 : z_W18.all goodWord = true := by decide +kernel
theorem z_Wg19 : z_W19.all goodWord = true := by decide +kernel
theorem z_Wg20 : z_W20.all goodWord = true := by decide +kernel
theorem z_Wg21 : z_W21.all goodWord = true := by decide +kernel
theorem z_Wg22 : z_W22.all goodWord = true := by decide +kernel
theorem z_Wg23 : z_W23.all goodWord = true := by decide +kernel
theorem z_Wg24 : z_W24.all goodWord = true := by decide +kernel
theorem z_Wgood : ∀ w ∈ z_W, goodWord w = true := by
  intro w h
  unfold z_W at h
  simp only [List.mem_append] at h
  rcases h with h | h | h | h | h | h | h | h | h | h | h | h | h | h | h | h | h | h | h | h | h | h | h | h | h
  · exact List.all_eq_true.mp z_Wg0 w h
  · exact List.all_eq_true.mp z_Wg1 w h
  · exact List.all_eq_true.mp z_Wg2 w h
  · exact List.all_eq_true.mp z_Wg3 w h
  · exact List.all_eq_true.mp z_Wg4 w h
  · exact List.all_eq_true.mp z_Wg5 w h
  · exact List.all_eq_true.mp z_Wg6 w h
  · exact List.all_eq_true.mp z_Wg7 w h
  · exact List.all_eq_true.mp z_Wg8 w h
  · exact List.all_eq_true.mp z_Wg9 w h
  · exact List.all_eq_true.mp z_Wg10 w h
  · exact List.all_eq_true.mp z_Wg11 w h
  · exact List.all_eq_true.mp z_Wg12 w h
  · exact List.all_eq_true.mp z_Wg13 w h
  · exact List.all_eq_true.mp z_Wg14 w h
  · exact List.all_eq_true.mp z_Wg15 w h
  · exact List.all_eq_true.mp z_Wg16 w h
  · exact List.all_eq_true.mp z_Wg17 w h
  · exact List.all_eq_true.mp z_Wg18 w h
  · exact List.all_eq_true.mp z_Wg19 w h
  · exact List.all_eq_true.mp z_Wg20 w h
  · exact List.all_eq_true.mp z_Wg21 w h
  · exact List.all_eq_true.mp z_Wg22 w h
  · exact List.all_eq_true.mp z_Wg23 w h
  · exact List.all_eq_true.mp z_Wg24 w h
theorem z_gw {c0 cw : Cond} (h : cw ∈ z_W) : GoodIn (c0 :: z_W) (cw :: z_W) := by
  intro w hw
  have hz : w ∈ z_W := by
    rcases List.mem_cons.mp hw with rfl | hw
    · exact h
    · exact hw
  exact ⟨List.mem_cons_of_mem _ hz, good_of_word (z_Wgood w hz)⟩
theorem kw_0 : Cond.initialized "ViewRoundsLaw" ∈ z_W := z_Win0 (List.mem_of_getElem? (i := 0) rfl)
theorem kw_1 : Cond.initialized "ViewRounds" ∈ z_W := z_Win0 (List.mem_of_getElem? (i := 1) rfl)
theorem kw_2 : Cond.initialized "ViewRounds$Program" ∈ z_W := z_Win0 (List.mem_of_getElem? (i := 2) rfl)
theorem kw_3 : Cond.initialized "ViewRounds$SignedRows" ∈ z_W := z_Win0 (List.mem_of_getElem? (i := 3) rfl)
theorem kw_4 : Cond.initialized "java/lang/Math" ∈ z_W := z_Win0 (List.mem_of_getElem? (i := 4) rfl)
theorem kw_5 : Cond.initialized "ViewRounds$Engine" ∈ z_W := z_Win0 (List.mem_of_getElem? (i := 5) rfl)
theorem kw_6 : Cond.initialized "ViewRounds$Rule" ∈ z_W := z_Win0 (List.mem_of_getElem? (i := 6) rfl)
theorem kw_7 : Cond.initialized "ViewRounds$Atom" ∈ z_W := z_Win0 (List.mem_of_getElem? (i := 7) rfl)
theorem kw_8 : Cond.initialized "ViewRounds$Rows" ∈ z_W := z_Win0 (List.mem_of_getElem? (i := 8) rfl)
theorem kw_9 : Cond.initialized "ViewRoundsModel" ∈ z_W := z_Win0 (List.mem_of_getElem? (i := 9) rfl)
theorem kw_10 : Cond.initialized "ViewRounds$Reader" ∈ z_W := z_Win0 (List.mem_of_getElem? (i := 10) rfl)
theorem kw_11 : Cond.classLink "ViewRoundsLaw" 7 "ViewRounds" ∈ z_W := z_Win0 (List.mem_of_getElem? (i := 11) rfl)
theorem kw_12 : Cond.instantiable "ViewRounds" 13 ∈ z_W := z_Win0 (List.mem_of_getElem? (i := 12) rfl)
theorem kw_13 : Cond.methodLink "ViewRoundsLaw" 9 ⟨"ViewRounds", "<init>", "()V"⟩ ∈ z_W := z_Win0 (List.mem_of_getElem? (i := 13) rfl)
theorem kw_14 : Cond.instanceMethod ⟨"ViewRounds", "<init>", "()V"⟩ ∈ z_W := z_Win0 (List.mem_of_getElem? (i := 14) rfl)
theorem kw_15 : Cond.code ⟨"ViewRounds", "<init>", "()V"⟩ prog_1_method_1_code 2 none ∈ z_W := z_Win0 (List.mem_of_getElem? (i := 15) rfl)
theorem kw_16 : Cond.methodLink "ViewRounds" 3 ⟨"java/lang/Object", "<init>", "()V"⟩ ∈ z_W := z_Win0 (List.mem_of_getElem? (i := 16) rfl)
theorem kw_17 : Cond.instanceMethod ⟨"java/lang/Object", "<init>", "()V"⟩ ∈ z_W := z_Win0 (List.mem_of_getElem? (i := 17) rfl)
theorem kw_18 : Cond.code ⟨"java/lang/Object", "<init>", "()V"⟩ object_method_1_code 1 none ∈ z_W := z_Win0 (List.mem_of_getElem? (i := 18) rfl)
theorem kw_19 : Cond.classLink "ViewRounds" 21 "ViewRounds$Program" ∈ z_W := z_Win0 (List.mem_of_getElem? (i := 19) rfl)
theorem kw_20 : Cond.instantiable "ViewRounds$Program" 11 ∈ z_W := z_Win0 (List.mem_of_getElem? (i := 20) rfl)
theorem kw_21 : Cond.instanceMethod ⟨"ViewRounds$Program", "<init>", "()V"⟩ ∈ z_W := z_Win0 (List.mem_of_getElem? (i := 21) rfl)
theorem kw_22 : Cond.code ⟨"ViewRounds$Program", "<init>", "()V"⟩ prog_4_method_1_code 1 none ∈ z_W := z_Win0 (List.mem_of_getElem? (i := 22) rfl)
theorem kw_23 : Cond.methodLink "ViewRounds$Program" 3 ⟨"java/lang/Object", "<init>", "()V"⟩ ∈ z_W := z_Win0 (List.mem_of_getElem? (i := 23) rfl)
theorem kw_24 : Cond.classLink "ViewRounds$Program" 9 "ViewRounds$Rule" ∈ z_W := z_Win0 (List.mem_of_getElem? (i := 24) rfl)
theorem kw_25 : Cond.fieldLink "ViewRounds$Program" 11 "ViewRounds$Program" "rules" "[LViewRounds$Rule;" ∈ z_W := z_Win0 (List.mem_of_getElem? (i := 25) rfl)
theorem kw_26 : Cond.fieldLink "ViewRounds$Engine" 89 "ViewRounds$Program" "rules" "[LViewRounds$Rule;" ∈ z_W := z_Win0 (List.mem_of_getElem? (i := 26) rfl)
theorem kw_27 : Cond.fieldLink "ViewRounds" 176 "ViewRounds$Program" "rules" "[LViewRounds$Rule;" ∈ z_W := z_Win0 (List.mem_of_getElem? (i := 27) rfl)
theorem kw_28 : Cond.fieldLink "ViewRounds$Engine" 76 "ViewRounds$Program" "ruleCount" "I" ∈ z_W := z_Win0 (List.mem_of_getElem? (i := 28) rfl)
theorem kw_29 : Cond.fieldLink "ViewRounds$Reader" 60 "ViewRounds$Program" "ruleCount" "I" ∈ z_W := z_Win0 (List.mem_of_getElem? (i := 29) rfl)
theorem kw_30 : Cond.fieldLink "ViewRounds" 93 "ViewRounds$Program" "ruleCount" "I" ∈ z_W := z_Win0 (List.mem_of_getElem? (i := 30) rfl)
theorem kw_31 : Cond.fieldLink "ViewRounds$Program" 74 "ViewRounds$Program" "ruleCount" "I" ∈ z_W := z_Win0 (List.mem_of_getElem? (i := 31) rfl)
theorem kw_32 : Cond.fieldLink "ViewRounds$Program" 17 "ViewRounds$Program" "names" "[I" ∈ z_W := z_Win0 (List.mem_of_getElem? (i := 32) rfl)
theorem kw_33 : Cond.fieldLink "ViewRounds" 203 "ViewRounds$Program" "names" "[I" ∈ z_W := z_Win0 (List.mem_of_getElem? (i := 33) rfl)
theorem kw_34 : Cond.fieldLink "ViewRounds$Program" 21 "ViewRounds$Program" "terms" "[I" ∈ z_W := z_Win0 (List.mem_of_getElem? (i := 34) rfl)
theorem kw_35 : Cond.fieldLink "ViewRounds" 114 "ViewRounds$Program" "terms" "[I" ∈ z_W := z_Win0 (List.mem_of_getElem? (i := 35) rfl)
theorem kw_36 : Cond.fieldLink "ViewRounds$Reader" 142 "ViewRounds$Program" "terms" "[I" ∈ z_W := z_Win0 (List.mem_of_getElem? (i := 36) rfl)
theorem kw_37 : Cond.fieldLink "ViewRounds$Program" 24 "ViewRounds$Program" "layers" "[I" ∈ z_W := z_Win0 (List.mem_of_getElem? (i := 37) rfl)
theorem kw_38 : Cond.fieldLink "ViewRounds$Engine" 112 "ViewRounds$Program" "layers" "[I" ∈ z_W := z_Win0 (List.mem_of_getElem? (i := 38) rfl)
theorem kw_39 : Cond.fieldLink "ViewRounds" 117 "ViewRounds$Program" "layers" "[I" ∈ z_W := z_Win0 (List.mem_of_getElem? (i := 39) rfl)
theorem kw_40 : Cond.fieldLink "ViewRounds$Program" 27 "ViewRounds$Program" "reach" "[I" ∈ z_W := z_Win1 (List.mem_of_getElem? (i := 0) rfl)
theorem kw_41 : Cond.fieldLink "ViewRounds" 120 "ViewRounds$Program" "reach" "[I" ∈ z_W := z_Win1 (List.mem_of_getElem? (i := 1) rfl)
theorem kw_42 : Cond.fieldLink "ViewRounds$Program" 30 "ViewRounds$Program" "relations" "I" ∈ z_W := z_Win1 (List.mem_of_getElem? (i := 2) rfl)
theorem kw_43 : Cond.fieldLink "ViewRounds$Engine" 48 "ViewRounds$Program" "relations" "I" ∈ z_W := z_Win1 (List.mem_of_getElem? (i := 3) rfl)
theorem kw_44 : Cond.fieldLink "ViewRounds" 194 "ViewRounds$Program" "relations" "I" ∈ z_W := z_Win1 (List.mem_of_getElem? (i := 4) rfl)
theorem kw_45 : Cond.fieldLink "ViewRounds$Engine" 59 "ViewRounds$Program" "topLayer" "I" ∈ z_W := z_Win1 (List.mem_of_getElem? (i := 5) rfl)
theorem kw_46 : Cond.fieldLink "ViewRounds$Program" 89 "ViewRounds$Program" "topLayer" "I" ∈ z_W := z_Win1 (List.mem_of_getElem? (i := 6) rfl)
theorem kw_47 : Cond.fieldLink "ViewRounds" 196 "ViewRounds$Program" "topLayer" "I" ∈ z_W := z_Win1 (List.mem_of_getElem? (i := 7) rfl)
theorem kw_48 : Cond.fieldLink "ViewRounds$Program" 83 "ViewRounds$Program" "ring" "I" ∈ z_W := z_Win1 (List.mem_of_getElem? (i := 8) rfl)
theorem kw_49 : Cond.fieldLink "ViewRounds" 200 "ViewRounds$Program" "ring" "I" ∈ z_W := z_Win1 (List.mem_of_getElem? (i := 9) rfl)
theorem kw_50 : Cond.fieldLink "ViewRounds$Program" 38 "ViewRounds$Program" "views" "I" ∈ z_W := z_Win1 (List.mem_of_getElem? (i := 10) rfl)
theorem kw_51 : Cond.fieldLink "ViewRounds$Program" 45 "ViewRounds$Program" "countedViews" "I" ∈ z_W := z_Win1 (List.mem_of_getElem? (i := 11) rfl)
theorem kw_52 : Cond.laysFinal "ViewRounds$Program" "ViewRounds$Program" "rules" "[LViewRounds$Rule;" ∈ z_W := z_Win1 (List.mem_of_getElem? (i := 12) rfl)
theorem kw_53 : Cond.lays "ViewRounds$Program" "ViewRounds$Program" "ruleCount" "I" ∈ z_W := z_Win1 (List.mem_of_getElem? (i := 13) rfl)
theorem kw_54 : Cond.laysFinal "ViewRounds$Program" "ViewRounds$Program" "names" "[I" ∈ z_W := z_Win1 (List.mem_of_getElem? (i := 14) rfl)
theorem kw_55 : Cond.laysFinal "ViewRounds$Program" "ViewRounds$Program" "terms" "[I" ∈ z_W := z_Win1 (List.mem_of_getElem? (i := 15) rfl)
theorem kw_56 : Cond.laysFinal "ViewRounds$Program" "ViewRounds$Program" "layers" "[I" ∈ z_W := z_Win1 (List.mem_of_getElem? (i := 16) rfl)
theorem kw_57 : Cond.laysFinal "ViewRounds$Program" "ViewRounds$Program" "reach" "[I" ∈ z_W := z_Win1 (List.mem_of_getElem? (i := 17) rfl)
theorem kw_58 : Cond.lays "ViewRounds$Program" "ViewRounds$Program" "relations" "I" ∈ z_W := z_Win1 (List.mem_of_getElem? (i := 18) rfl)
theorem kw_59 : Cond.lays "ViewRounds$Program" "ViewRounds$Program" "topLayer" "I" ∈ z_W := z_Win1 (List.mem_of_getElem? (i := 19) rfl)
theorem kw_60 : Cond.lays "ViewRounds$Program" "ViewRounds$Program" "ring" "I" ∈ z_W := z_Win1 (List.mem_of_getElem? (i := 20) rfl)
theorem kw_61 : Cond.lays "ViewRounds$Program" "ViewRounds$Program" "views" "I" ∈ z_W := z_Win1 (List.mem_of_getElem? (i := 21) rfl)
theorem kw_62 : Cond.lays "ViewRounds$Program" "ViewRounds$Program" "countedViews" "I" ∈ z_W := z_Win1 (List.mem_of_getElem? (i := 22) rfl)
theorem kw_63 : Cond.arrayClass .byte ∈ z_W := z_Win1 (List.mem_of_getElem? (i := 23) rfl)
theorem kw_64 : Cond.arrayClass .int ∈ z_W := z_Win1 (List.mem_of_getElem? (i := 24) rfl)
theorem kw_65 : Cond.classLink "ViewRounds" 28 "ViewRounds$Rows" ∈ z_W := z_Win1 (List.mem_of_getElem? (i := 25) rfl)
theorem kw_66 : Cond.classLink "ViewRounds" 37 "ViewRounds$SignedRows" ∈ z_W := z_Win1 (List.mem_of_getElem? (i := 26) rfl)
theorem kw_67 : Cond.instantiable "ViewRounds$SignedRows" 4 ∈ z_W := z_Win1 (List.mem_of_getElem? (i := 27) rfl)
theorem kw_68 : Cond.methodLink "ViewRounds" 39 ⟨"ViewRounds$SignedRows", "<init>", "(I)V"⟩ ∈ z_W := z_Win1 (List.mem_of_getElem? (i := 28) rfl)
theorem kw_69 : Cond.instanceMethod ⟨"ViewRounds$SignedRows", "<init>", "(I)V"⟩ ∈ z_W := z_Win1 (List.mem_of_getElem? (i := 29) rfl)
theorem kw_70 : Cond.code ⟨"ViewRounds$SignedRows", "<init>", "(I)V"⟩ prog_8_method_1_code 3 none ∈ z_W := z_Win1 (List.mem_of_getElem? (i := 30) rfl)
theorem kw_71 : Cond.methodLink "ViewRounds$SignedRows" 1 ⟨"java/lang/Object", "<init>", "()V"⟩ ∈ z_W := z_Win1 (List.mem_of_getElem? (i := 31) rfl)
theorem kw_72 : Cond.methodLink "ViewRounds$SignedRows" 7 ⟨"java/lang/Math", "max", "(II)I"⟩ ∈ z_W := z_Win1 (List.mem_of_getElem? (i := 32) rfl)
theorem kw_73 : Cond.static ⟨"java/lang/Math", "max", "(II)I"⟩ ∈ z_W := z_Win1 (List.mem_of_getElem? (i := 33) rfl)
theorem kw_74 : Cond.code ⟨"java/lang/Math", "max", "(II)I"⟩ prog_11_method_65_code 2 (some .int) ∈ z_W := z_Win1 (List.mem_of_getElem? (i := 34) rfl)
theorem kw_75 : Cond.fieldLink "ViewRounds$SignedRows" 13 "ViewRounds$SignedRows" "relations" "[I" ∈ z_W := z_Win1 (List.mem_of_getElem? (i := 35) rfl)
theorem kw_76 : Cond.fieldLink "ViewRounds" 143 "ViewRounds$SignedRows" "relations" "[I" ∈ z_W := z_Win1 (List.mem_of_getElem? (i := 36) rfl)
theorem kw_77 : Cond.fieldLink "ViewRounds$SignedRows" 19 "ViewRounds$SignedRows" "keys" "[I" ∈ z_W := z_Win1 (List.mem_of_getElem? (i := 37) rfl)
theorem kw_78 : Cond.fieldLink "ViewRounds" 149 "ViewRounds$SignedRows" "keys" "[I" ∈ z_W := z_Win1 (List.mem_of_getElem? (i := 38) rfl)
theorem kw_79 : Cond.fieldLink "ViewRounds$SignedRows" 22 "ViewRounds$SignedRows" "signs" "[I" ∈ z_W := z_Win1 (List.mem_of_getElem? (i := 39) rfl)
theorem kw_80 : Cond.fieldLink "ViewRounds" 146 "ViewRounds$SignedRows" "signs" "[I" ∈ z_W := z_Win2 (List.mem_of_getElem? (i := 0) rfl)
theorem kw_81 : Cond.fieldLink "ViewRounds$SignedRows" 25 "ViewRounds$SignedRows" "size" "I" ∈ z_W := z_Win2 (List.mem_of_getElem? (i := 1) rfl)
theorem kw_82 : Cond.fieldLink "ViewRounds" 131 "ViewRounds$SignedRows" "size" "I" ∈ z_W := z_Win2 (List.mem_of_getElem? (i := 2) rfl)
theorem kw_83 : Cond.laysFinal "ViewRounds$SignedRows" "ViewRounds$SignedRows" "relations" "[I" ∈ z_W := z_Win2 (List.mem_of_getElem? (i := 3) rfl)
theorem kw_84 : Cond.laysFinal "ViewRounds$SignedRows" "ViewRounds$SignedRows" "keys" "[I" ∈ z_W := z_Win2 (List.mem_of_getElem? (i := 4) rfl)
theorem kw_85 : Cond.laysFinal "ViewRounds$SignedRows" "ViewRounds$SignedRows" "signs" "[I" ∈ z_W := z_Win2 (List.mem_of_getElem? (i := 5) rfl)
theorem kw_86 : Cond.lays "ViewRounds$SignedRows" "ViewRounds$SignedRows" "size" "I" ∈ z_W := z_Win2 (List.mem_of_getElem? (i := 6) rfl)
theorem kw_87 : Cond.classLink "ViewRounds" 53 "ViewRounds$Engine" ∈ z_W := z_Win2 (List.mem_of_getElem? (i := 7) rfl)
theorem kw_88 : Cond.instantiable "ViewRounds$Engine" 12 ∈ z_W := z_Win2 (List.mem_of_getElem? (i := 8) rfl)
theorem kw_89 : Cond.instanceMethod ⟨"ViewRounds$Engine", "<init>", "()V"⟩ ∈ z_W := z_Win2 (List.mem_of_getElem? (i := 9) rfl)
theorem kw_90 : Cond.code ⟨"ViewRounds$Engine", "<init>", "()V"⟩ prog_3_method_1_code 1 none ∈ z_W := z_Win2 (List.mem_of_getElem? (i := 10) rfl)
theorem kw_91 : Cond.methodLink "ViewRounds$Engine" 3 ⟨"java/lang/Object", "<init>", "()V"⟩ ∈ z_W := z_Win2 (List.mem_of_getElem? (i := 11) rfl)
theorem kw_92 : Cond.classLink "ViewRounds$Engine" 24 "ViewRounds$Program" ∈ z_W := z_Win2 (List.mem_of_getElem? (i := 12) rfl)
theorem kw_93 : Cond.classLink "ViewRounds$Engine" 31 "ViewRounds$Rule" ∈ z_W := z_Win2 (List.mem_of_getElem? (i := 13) rfl)
theorem kw_94 : Cond.instantiable "ViewRounds$Rule" 7 ∈ z_W := z_Win2 (List.mem_of_getElem? (i := 14) rfl)
theorem kw_95 : Cond.instanceMethod ⟨"ViewRounds$Rule", "<init>", "()V"⟩ ∈ z_W := z_Win2 (List.mem_of_getElem? (i := 15) rfl)
theorem kw_96 : Cond.code ⟨"ViewRounds$Rule", "<init>", "()V"⟩ prog_7_method_1_code 1 none ∈ z_W := z_Win2 (List.mem_of_getElem? (i := 16) rfl)
theorem kw_97 : Cond.methodLink "ViewRounds$Rule" 3 ⟨"java/lang/Object", "<init>", "()V"⟩ ∈ z_W := z_Win2 (List.mem_of_getElem? (i := 17) rfl)
theorem kw_98 : Cond.classLink "ViewRounds$Rule" 9 "ViewRounds$Atom" ∈ z_W := z_Win2 (List.mem_of_getElem? (i := 18) rfl)
theorem kw_99 : Cond.instantiable "ViewRounds$Atom" 6 ∈ z_W := z_Win2 (List.mem_of_getElem? (i := 19) rfl)
theorem kw_100 : Cond.instanceMethod ⟨"ViewRounds$Atom", "<init>", "()V"⟩ ∈ z_W := z_Win2 (List.mem_of_getElem? (i := 20) rfl)
theorem kw_101 : Cond.code ⟨"ViewRounds$Atom", "<init>", "()V"⟩ prog_2_method_1_code 1 none ∈ z_W := z_Win2 (List.mem_of_getElem? (i := 21) rfl)
theorem kw_102 : Cond.methodLink "ViewRounds$Atom" 3 ⟨"java/lang/Object", "<init>", "()V"⟩ ∈ z_W := z_Win2 (List.mem_of_getElem? (i := 22) rfl)
theorem kw_103 : Cond.fieldLink "ViewRounds$Atom" 9 "ViewRounds$Atom" "terms" "[I" ∈ z_W := z_Win2 (List.mem_of_getElem? (i := 23) rfl)
theorem kw_104 : Cond.fieldLink "ViewRounds$Engine" 145 "ViewRounds$Atom" "terms" "[I" ∈ z_W := z_Win2 (List.mem_of_getElem? (i := 24) rfl)
theorem kw_105 : Cond.fieldLink "ViewRounds$Atom" 15 "ViewRounds$Atom" "size" "I" ∈ z_W := z_Win2 (List.mem_of_getElem? (i := 25) rfl)
theorem kw_106 : Cond.fieldLink "ViewRounds$Reader" 146 "ViewRounds$Atom" "size" "I" ∈ z_W := z_Win2 (List.mem_of_getElem? (i := 26) rfl)
theorem kw_107 : Cond.fieldLink "ViewRounds$Engine" 144 "ViewRounds$Atom" "size" "I" ∈ z_W := z_Win2 (List.mem_of_getElem? (i := 27) rfl)
theorem kw_108 : Cond.fieldLink "ViewRounds$Rule" 29 "ViewRounds$Atom" "kind" "I" ∈ z_W := z_Win2 (List.mem_of_getElem? (i := 28) rfl)
theorem kw_109 : Cond.fieldLink "ViewRounds$Reader" 112 "ViewRounds$Atom" "kind" "I" ∈ z_W := z_Win2 (List.mem_of_getElem? (i := 29) rfl)
theorem kw_110 : Cond.fieldLink "ViewRounds$Engine" 129 "ViewRounds$Atom" "kind" "I" ∈ z_W := z_Win2 (List.mem_of_getElem? (i := 30) rfl)
theorem kw_111 : Cond.fieldLink "ViewRounds$Program" 102 "ViewRounds$Atom" "kind" "I" ∈ z_W := z_Win2 (List.mem_of_getElem? (i := 31) rfl)
theorem kw_112 : Cond.fieldLink "ViewRounds$Engine" 100 "ViewRounds$Atom" "relation" "I" ∈ z_W := z_Win2 (List.mem_of_getElem? (i := 32) rfl)
theorem kw_113 : Cond.fieldLink "ViewRounds$Program" 63 "ViewRounds$Atom" "relation" "I" ∈ z_W := z_Win2 (List.mem_of_getElem? (i := 33) rfl)
theorem kw_114 : Cond.fieldLink "ViewRounds$Reader" 135 "ViewRounds$Atom" "relation" "I" ∈ z_W := z_Win2 (List.mem_of_getElem? (i := 34) rfl)
theorem kw_115 : Cond.fieldLink "ViewRounds$Reader" 125 "ViewRounds$Atom" "operator" "I" ∈ z_W := z_Win2 (List.mem_of_getElem? (i := 35) rfl)
theorem kw_116 : Cond.fieldLink "ViewRounds$Engine" 199 "ViewRounds$Atom" "operator" "I" ∈ z_W := z_Win2 (List.mem_of_getElem? (i := 36) rfl)
theorem kw_117 : Cond.fieldLink "ViewRounds$Atom" 19 "ViewRounds$Atom" "letters" "I" ∈ z_W := z_Win2 (List.mem_of_getElem? (i := 37) rfl)
theorem kw_118 : Cond.fieldLink "ViewRounds$Rule" 42 "ViewRounds$Atom" "letters" "I" ∈ z_W := z_Win2 (List.mem_of_getElem? (i := 38) rfl)
theorem kw_119 : Cond.fieldLink "ViewRounds$Engine" 164 "ViewRounds$Atom" "letters" "I" ∈ z_W := z_Win2 (List.mem_of_getElem? (i := 39) rfl)
theorem kw_120 : Cond.laysFinal "ViewRounds$Atom" "ViewRounds$Atom" "terms" "[I" ∈ z_W := z_Win3 (List.mem_of_getElem? (i := 0) rfl)
theorem kw_121 : Cond.lays "ViewRounds$Atom" "ViewRounds$Atom" "size" "I" ∈ z_W := z_Win3 (List.mem_of_getElem? (i := 1) rfl)
theorem kw_122 : Cond.lays "ViewRounds$Atom" "ViewRounds$Atom" "kind" "I" ∈ z_W := z_Win3 (List.mem_of_getElem? (i := 2) rfl)
theorem kw_123 : Cond.lays "ViewRounds$Atom" "ViewRounds$Atom" "relation" "I" ∈ z_W := z_Win3 (List.mem_of_getElem? (i := 3) rfl)
theorem kw_124 : Cond.lays "ViewRounds$Atom" "ViewRounds$Atom" "operator" "I" ∈ z_W := z_Win3 (List.mem_of_getElem? (i := 4) rfl)
theorem kw_125 : Cond.lays "ViewRounds$Atom" "ViewRounds$Atom" "letters" "I" ∈ z_W := z_Win3 (List.mem_of_getElem? (i := 5) rfl)
theorem kw_126 : Cond.fieldLink "ViewRounds$Rule" 12 "ViewRounds$Rule" "head" "LViewRounds$Atom;" ∈ z_W := z_Win3 (List.mem_of_getElem? (i := 6) rfl)
theorem kw_127 : Cond.fieldLink "ViewRounds$Reader" 63 "ViewRounds$Rule" "head" "LViewRounds$Atom;" ∈ z_W := z_Win3 (List.mem_of_getElem? (i := 7) rfl)
theorem kw_128 : Cond.fieldLink "ViewRounds$Engine" 96 "ViewRounds$Rule" "head" "LViewRounds$Atom;" ∈ z_W := z_Win3 (List.mem_of_getElem? (i := 8) rfl)
theorem kw_129 : Cond.fieldLink "ViewRounds$Program" 59 "ViewRounds$Rule" "head" "LViewRounds$Atom;" ∈ z_W := z_Win3 (List.mem_of_getElem? (i := 9) rfl)
theorem kw_130 : Cond.fieldLink "ViewRounds$Rule" 18 "ViewRounds$Rule" "body" "[LViewRounds$Atom;" ∈ z_W := z_Win3 (List.mem_of_getElem? (i := 10) rfl)
theorem kw_131 : Cond.fieldLink "ViewRounds$Engine" 125 "ViewRounds$Rule" "body" "[LViewRounds$Atom;" ∈ z_W := z_Win3 (List.mem_of_getElem? (i := 11) rfl)
theorem kw_132 : Cond.fieldLink "ViewRounds$Program" 98 "ViewRounds$Rule" "body" "[LViewRounds$Atom;" ∈ z_W := z_Win3 (List.mem_of_getElem? (i := 12) rfl)
theorem kw_133 : Cond.fieldLink "ViewRounds$Rule" 22 "ViewRounds$Rule" "size" "I" ∈ z_W := z_Win3 (List.mem_of_getElem? (i := 13) rfl)
theorem kw_134 : Cond.fieldLink "ViewRounds$Reader" 106 "ViewRounds$Rule" "size" "I" ∈ z_W := z_Win3 (List.mem_of_getElem? (i := 14) rfl)
theorem kw_135 : Cond.fieldLink "ViewRounds$Program" 56 "ViewRounds$Rule" "size" "I" ∈ z_W := z_Win3 (List.mem_of_getElem? (i := 15) rfl)
theorem kw_136 : Cond.fieldLink "ViewRounds$Engine" 124 "ViewRounds$Rule" "size" "I" ∈ z_W := z_Win3 (List.mem_of_getElem? (i := 16) rfl)
theorem kw_137 : Cond.fieldLink "ViewRounds$Rule" 26 "ViewRounds$Rule" "positive" "I" ∈ z_W := z_Win3 (List.mem_of_getElem? (i := 17) rfl)
theorem kw_138 : Cond.fieldLink "ViewRounds$Reader" 103 "ViewRounds$Rule" "positive" "I" ∈ z_W := z_Win3 (List.mem_of_getElem? (i := 18) rfl)
theorem kw_139 : Cond.fieldLink "ViewRounds$Program" 52 "ViewRounds$Rule" "counted" "Z" ∈ z_W := z_Win3 (List.mem_of_getElem? (i := 19) rfl)
theorem kw_140 : Cond.fieldLink "ViewRounds$Engine" 118 "ViewRounds$Rule" "counted" "Z" ∈ z_W := z_Win3 (List.mem_of_getElem? (i := 20) rfl)
theorem kw_141 : Cond.fieldLink "ViewRounds$Reader" 138 "ViewRounds$Rule" "counted" "Z" ∈ z_W := z_Win3 (List.mem_of_getElem? (i := 21) rfl)
theorem kw_142 : Cond.fieldLink "ViewRounds$Rule" 32 "ViewRounds$Rule" "letters" "I" ∈ z_W := z_Win3 (List.mem_of_getElem? (i := 22) rfl)
theorem kw_143 : Cond.fieldLink "ViewRounds$Engine" 191 "ViewRounds$Rule" "letters" "I" ∈ z_W := z_Win3 (List.mem_of_getElem? (i := 23) rfl)
theorem kw_144 : Cond.fieldLink "ViewRounds$Rule" 39 "ViewRounds$Rule" "variables" "I" ∈ z_W := z_Win3 (List.mem_of_getElem? (i := 24) rfl)
theorem kw_145 : Cond.fieldLink "ViewRounds" 180 "ViewRounds$Rule" "variables" "I" ∈ z_W := z_Win3 (List.mem_of_getElem? (i := 25) rfl)
theorem kw_146 : Cond.laysFinal "ViewRounds$Rule" "ViewRounds$Rule" "head" "LViewRounds$Atom;" ∈ z_W := z_Win3 (List.mem_of_getElem? (i := 26) rfl)
theorem kw_147 : Cond.laysFinal "ViewRounds$Rule" "ViewRounds$Rule" "body" "[LViewRounds$Atom;" ∈ z_W := z_Win3 (List.mem_of_getElem? (i := 27) rfl)
theorem kw_148 : Cond.lays "ViewRounds$Rule" "ViewRounds$Rule" "size" "I" ∈ z_W := z_Win3 (List.mem_of_getElem? (i := 28) rfl)
theorem kw_149 : Cond.lays "ViewRounds$Rule" "ViewRounds$Rule" "positive" "I" ∈ z_W := z_Win3 (List.mem_of_getElem? (i := 29) rfl)
theorem kw_150 : Cond.lays "ViewRounds$Rule" "ViewRounds$Rule" "counted" "Z" ∈ z_W := z_Win3 (List.mem_of_getElem? (i := 30) rfl)
theorem kw_151 : Cond.lays "ViewRounds$Rule" "ViewRounds$Rule" "letters" "I" ∈ z_W := z_Win3 (List.mem_of_getElem? (i := 31) rfl)
theorem kw_152 : Cond.lays "ViewRounds$Rule" "ViewRounds$Rule" "variables" "I" ∈ z_W := z_Win3 (List.mem_of_getElem? (i := 32) rfl)
theorem kw_153 : Cond.classLink "ViewRounds$Engine" 38 "ViewRounds$Rows" ∈ z_W := z_Win3 (List.mem_of_getElem? (i := 33) rfl)
theorem kw_154 : Cond.fieldLink "ViewRounds$Engine" 9 "ViewRounds$Engine" "least" "[I" ∈ z_W := z_Win3 (List.mem_of_getElem? (i := 34) rfl)
theorem kw_155 : Cond.fieldLink "ViewRounds" 185 "ViewRounds$Engine" "least" "[I" ∈ z_W := z_Win3 (List.mem_of_getElem? (i := 35) rfl)
theorem kw_156 : Cond.fieldLink "ViewRounds$Engine" 15 "ViewRounds$Engine" "values" "[I" ∈ z_W := z_Win3 (List.mem_of_getElem? (i := 36) rfl)
theorem kw_157 : Cond.fieldLink "ViewRounds$Engine" 18 "ViewRounds$Engine" "queuedViews" "[I" ∈ z_W := z_Win3 (List.mem_of_getElem? (i := 37) rfl)
theorem kw_158 : Cond.fieldLink "ViewRounds$Engine" 21 "ViewRounds$Engine" "queuedKeys" "[I" ∈ z_W := z_Win3 (List.mem_of_getElem? (i := 38) rfl)
theorem kw_159 : Cond.fieldLink "ViewRounds$Engine" 66 "ViewRounds$Engine" "queued" "I" ∈ z_W := z_Win3 (List.mem_of_getElem? (i := 39) rfl)
theorem kw_160 : Cond.fieldLink "ViewRounds$Engine" 93 "ViewRounds$Engine" "known" "I" ∈ z_W := z_Win4 (List.mem_of_getElem? (i := 0) rfl)
theorem kw_161 : Cond.fieldLink "ViewRounds$Engine" 86 "ViewRounds$Engine" "goal" "I" ∈ z_W := z_Win4 (List.mem_of_getElem? (i := 1) rfl)
theorem kw_162 : Cond.fieldLink "ViewRounds$Engine" 83 "ViewRounds$Engine" "number" "I" ∈ z_W := z_Win4 (List.mem_of_getElem? (i := 2) rfl)
theorem kw_163 : Cond.fieldLink "ViewRounds$Engine" 62 "ViewRounds$Engine" "full" "Z" ∈ z_W := z_Win4 (List.mem_of_getElem? (i := 3) rfl)
theorem kw_164 : Cond.fieldLink "ViewRounds$Engine" 27 "ViewRounds$Engine" "program" "LViewRounds$Program;" ∈ z_W := z_Win4 (List.mem_of_getElem? (i := 4) rfl)
theorem kw_165 : Cond.fieldLink "ViewRounds$Engine" 34 "ViewRounds$Engine" "rule" "LViewRounds$Rule;" ∈ z_W := z_Win4 (List.mem_of_getElem? (i := 5) rfl)
theorem kw_166 : Cond.fieldLink "ViewRounds$Engine" 40 "ViewRounds$Engine" "rows" "[LViewRounds$Rows;" ∈ z_W := z_Win4 (List.mem_of_getElem? (i := 6) rfl)
theorem kw_167 : Cond.laysFinal "ViewRounds$Engine" "ViewRounds$Engine" "least" "[I" ∈ z_W := z_Win4 (List.mem_of_getElem? (i := 7) rfl)
theorem kw_168 : Cond.laysFinal "ViewRounds$Engine" "ViewRounds$Engine" "values" "[I" ∈ z_W := z_Win4 (List.mem_of_getElem? (i := 8) rfl)
theorem kw_169 : Cond.laysFinal "ViewRounds$Engine" "ViewRounds$Engine" "queuedViews" "[I" ∈ z_W := z_Win4 (List.mem_of_getElem? (i := 9) rfl)
theorem kw_170 : Cond.laysFinal "ViewRounds$Engine" "ViewRounds$Engine" "queuedKeys" "[I" ∈ z_W := z_Win4 (List.mem_of_getElem? (i := 10) rfl)
theorem kw_171 : Cond.lays "ViewRounds$Engine" "ViewRounds$Engine" "queued" "I" ∈ z_W := z_Win4 (List.mem_of_getElem? (i := 11) rfl)
theorem kw_172 : Cond.lays "ViewRounds$Engine" "ViewRounds$Engine" "known" "I" ∈ z_W := z_Win4 (List.mem_of_getElem? (i := 12) rfl)
theorem kw_173 : Cond.lays "ViewRounds$Engine" "ViewRounds$Engine" "goal" "I" ∈ z_W := z_Win4 (List.mem_of_getElem? (i := 13) rfl)
theorem kw_174 : Cond.lays "ViewRounds$Engine" "ViewRounds$Engine" "number" "I" ∈ z_W := z_Win4 (List.mem_of_getElem? (i := 14) rfl)
theorem kw_175 : Cond.lays "ViewRounds$Engine" "ViewRounds$Engine" "full" "Z" ∈ z_W := z_Win4 (List.mem_of_getElem? (i := 15) rfl)
theorem kw_176 : Cond.lays "ViewRounds$Engine" "ViewRounds$Engine" "program" "LViewRounds$Program;" ∈ z_W := z_Win4 (List.mem_of_getElem? (i := 16) rfl)
theorem kw_177 : Cond.lays "ViewRounds$Engine" "ViewRounds$Engine" "rule" "LViewRounds$Rule;" ∈ z_W := z_Win4 (List.mem_of_getElem? (i := 17) rfl)
theorem kw_178 : Cond.lays "ViewRounds$Engine" "ViewRounds$Engine" "rows" "[LViewRounds$Rows;" ∈ z_W := z_Win4 (List.mem_of_getElem? (i := 18) rfl)
theorem kw_179 : Cond.instantiable "ViewRounds$Rows" 3 ∈ z_W := z_Win4 (List.mem_of_getElem? (i := 19) rfl)
theorem kw_180 : Cond.instanceMethod ⟨"ViewRounds$Rows", "<init>", "()V"⟩ ∈ z_W := z_Win4 (List.mem_of_getElem? (i := 20) rfl)
theorem kw_181 : Cond.code ⟨"ViewRounds$Rows", "<init>", "()V"⟩ prog_6_method_1_code 1 none ∈ z_W := z_Win4 (List.mem_of_getElem? (i := 21) rfl)
theorem kw_182 : Cond.methodLink "ViewRounds$Rows" 3 ⟨"java/lang/Object", "<init>", "()V"⟩ ∈ z_W := z_Win4 (List.mem_of_getElem? (i := 22) rfl)
theorem kw_183 : Cond.fieldLink "ViewRounds$Rows" 9 "ViewRounds$Rows" "keys" "[I" ∈ z_W := z_Win4 (List.mem_of_getElem? (i := 23) rfl)
theorem kw_184 : Cond.fieldLink "ViewRounds$Engine" 161 "ViewRounds$Rows" "keys" "[I" ∈ z_W := z_Win4 (List.mem_of_getElem? (i := 24) rfl)
theorem kw_185 : Cond.fieldLink "ViewRounds" 165 "ViewRounds$Rows" "keys" "[I" ∈ z_W := z_Win4 (List.mem_of_getElem? (i := 25) rfl)
theorem kw_186 : Cond.fieldLink "ViewRounds$Rows" 15 "ViewRounds$Rows" "counts" "[I" ∈ z_W := z_Win4 (List.mem_of_getElem? (i := 26) rfl)
theorem kw_187 : Cond.fieldLink "ViewRounds$Engine" 188 "ViewRounds$Rows" "counts" "[I" ∈ z_W := z_Win4 (List.mem_of_getElem? (i := 27) rfl)
theorem kw_188 : Cond.fieldLink "ViewRounds" 162 "ViewRounds$Rows" "counts" "[I" ∈ z_W := z_Win4 (List.mem_of_getElem? (i := 28) rfl)
theorem kw_189 : Cond.fieldLink "ViewRounds$Rows" 18 "ViewRounds$Rows" "size" "I" ∈ z_W := z_Win4 (List.mem_of_getElem? (i := 29) rfl)
theorem kw_190 : Cond.fieldLink "ViewRounds$Engine" 56 "ViewRounds$Rows" "size" "I" ∈ z_W := z_Win4 (List.mem_of_getElem? (i := 30) rfl)
theorem kw_191 : Cond.fieldLink "ViewRounds" 82 "ViewRounds$Rows" "size" "I" ∈ z_W := z_Win4 (List.mem_of_getElem? (i := 31) rfl)
theorem kw_192 : Cond.laysFinal "ViewRounds$Rows" "ViewRounds$Rows" "keys" "[I" ∈ z_W := z_Win4 (List.mem_of_getElem? (i := 32) rfl)
theorem kw_193 : Cond.laysFinal "ViewRounds$Rows" "ViewRounds$Rows" "counts" "[I" ∈ z_W := z_Win4 (List.mem_of_getElem? (i := 33) rfl)
theorem kw_194 : Cond.lays "ViewRounds$Rows" "ViewRounds$Rows" "size" "I" ∈ z_W := z_Win4 (List.mem_of_getElem? (i := 34) rfl)
theorem kw_195 : Cond.fieldLink "ViewRounds" 9 "ViewRounds" "text" "[B" ∈ z_W := z_Win4 (List.mem_of_getElem? (i := 35) rfl)
theorem kw_196 : Cond.fieldLink "ViewRounds" 61 "ViewRounds" "length" "I" ∈ z_W := z_Win4 (List.mem_of_getElem? (i := 36) rfl)
theorem kw_197 : Cond.fieldLink "ViewRounds" 13 "ViewRounds" "faultPlace" "I" ∈ z_W := z_Win4 (List.mem_of_getElem? (i := 37) rfl)
theorem kw_198 : Cond.fieldLink "ViewRounds" 17 "ViewRounds" "ringNames" "[I" ∈ z_W := z_Win4 (List.mem_of_getElem? (i := 38) rfl)
theorem kw_199 : Cond.fieldLink "ViewRounds" 96 "ViewRounds" "ringSize" "I" ∈ z_W := z_Win4 (List.mem_of_getElem? (i := 39) rfl)
theorem kw_200 : Cond.fieldLink "ViewRounds" 24 "ViewRounds" "program" "LViewRounds$Program;" ∈ z_W := z_Win5 (List.mem_of_getElem? (i := 0) rfl)
theorem kw_201 : Cond.fieldLink "ViewRounds" 30 "ViewRounds" "now" "[LViewRounds$Rows;" ∈ z_W := z_Win5 (List.mem_of_getElem? (i := 1) rfl)
theorem kw_202 : Cond.fieldLink "ViewRounds" 34 "ViewRounds" "next" "[LViewRounds$Rows;" ∈ z_W := z_Win5 (List.mem_of_getElem? (i := 2) rfl)
theorem kw_203 : Cond.fieldLink "ViewRounds" 42 "ViewRounds" "underWay" "LViewRounds$SignedRows;" ∈ z_W := z_Win5 (List.mem_of_getElem? (i := 3) rfl)
theorem kw_204 : Cond.fieldLink "ViewRounds" 46 "ViewRounds" "done" "[LViewRounds$SignedRows;" ∈ z_W := z_Win5 (List.mem_of_getElem? (i := 4) rfl)
theorem kw_205 : Cond.fieldLink "ViewRounds" 156 "ViewRounds" "doneSize" "I" ∈ z_W := z_Win5 (List.mem_of_getElem? (i := 5) rfl)
theorem kw_206 : Cond.fieldLink "ViewRounds" 50 "ViewRounds" "latest" "LViewRounds$SignedRows;" ∈ z_W := z_Win5 (List.mem_of_getElem? (i := 6) rfl)
theorem kw_207 : Cond.fieldLink "ViewRounds" 56 "ViewRounds" "engine" "LViewRounds$Engine;" ∈ z_W := z_Win5 (List.mem_of_getElem? (i := 7) rfl)
theorem kw_208 : Cond.laysFinal "ViewRounds" "ViewRounds" "text" "[B" ∈ z_W := z_Win5 (List.mem_of_getElem? (i := 8) rfl)
theorem kw_209 : Cond.lays "ViewRounds" "ViewRounds" "length" "I" ∈ z_W := z_Win5 (List.mem_of_getElem? (i := 9) rfl)
theorem kw_210 : Cond.lays "ViewRounds" "ViewRounds" "faultPlace" "I" ∈ z_W := z_Win5 (List.mem_of_getElem? (i := 10) rfl)
theorem kw_211 : Cond.laysFinal "ViewRounds" "ViewRounds" "ringNames" "[I" ∈ z_W := z_Win5 (List.mem_of_getElem? (i := 11) rfl)
theorem kw_212 : Cond.lays "ViewRounds" "ViewRounds" "ringSize" "I" ∈ z_W := z_Win5 (List.mem_of_getElem? (i := 12) rfl)
theorem kw_213 : Cond.lays "ViewRounds" "ViewRounds" "program" "LViewRounds$Program;" ∈ z_W := z_Win5 (List.mem_of_getElem? (i := 13) rfl)
theorem kw_214 : Cond.lays "ViewRounds" "ViewRounds" "now" "[LViewRounds$Rows;" ∈ z_W := z_Win5 (List.mem_of_getElem? (i := 14) rfl)
theorem kw_215 : Cond.lays "ViewRounds" "ViewRounds" "next" "[LViewRounds$Rows;" ∈ z_W := z_Win5 (List.mem_of_getElem? (i := 15) rfl)
theorem kw_216 : Cond.lays "ViewRounds" "ViewRounds" "underWay" "LViewRounds$SignedRows;" ∈ z_W := z_Win5 (List.mem_of_getElem? (i := 16) rfl)
theorem kw_217 : Cond.laysFinal "ViewRounds" "ViewRounds" "done" "[LViewRounds$SignedRows;" ∈ z_W := z_Win5 (List.mem_of_getElem? (i := 17) rfl)
theorem kw_218 : Cond.lays "ViewRounds" "ViewRounds" "doneSize" "I" ∈ z_W := z_Win5 (List.mem_of_getElem? (i := 18) rfl)
theorem kw_219 : Cond.laysFinal "ViewRounds" "ViewRounds" "latest" "LViewRounds$SignedRows;" ∈ z_W := z_Win5 (List.mem_of_getElem? (i := 19) rfl)
theorem kw_220 : Cond.laysFinal "ViewRounds" "ViewRounds" "engine" "LViewRounds$Engine;" ∈ z_W := z_Win5 (List.mem_of_getElem? (i := 20) rfl)
theorem kw_221 : Cond.methodLink "ViewRoundsLaw" 15 ⟨"ViewRounds", "feed", "(JI)I"⟩ ∈ z_W := z_Win5 (List.mem_of_getElem? (i := 21) rfl)
theorem kw_222 : Cond.instanceMethod ⟨"ViewRounds", "feed", "(JI)I"⟩ ∈ z_W := z_Win5 (List.mem_of_getElem? (i := 22) rfl)
theorem kw_223 : Cond.selects "ViewRounds" ⟨"ViewRounds", "feed", "(JI)I"⟩ ⟨"ViewRounds", "feed", "(JI)I"⟩ ∈ z_W := z_Win5 (List.mem_of_getElem? (i := 23) rfl)
theorem kw_224 : Cond.code ⟨"ViewRounds", "feed", "(JI)I"⟩ prog_1_method_2_code 5 (some .int) ∈ z_W := z_Win5 (List.mem_of_getElem? (i := 24) rfl)
theorem kw_225 : Cond.methodLink "ViewRoundsLaw" 20 ⟨"ViewRounds", "parse", "()I"⟩ ∈ z_W := z_Win5 (List.mem_of_getElem? (i := 25) rfl)
theorem kw_226 : Cond.instanceMethod ⟨"ViewRounds", "parse", "()I"⟩ ∈ z_W := z_Win5 (List.mem_of_getElem? (i := 26) rfl)
theorem kw_227 : Cond.selects "ViewRounds" ⟨"ViewRounds", "parse", "()I"⟩ ⟨"ViewRounds", "parse", "()I"⟩ ∈ z_W := z_Win5 (List.mem_of_getElem? (i := 27) rfl)
theorem kw_228 : Cond.code ⟨"ViewRounds", "parse", "()I"⟩ prog_1_method_3_code 3 (some .int) ∈ z_W := z_Win5 (List.mem_of_getElem? (i := 28) rfl)
theorem kw_229 : Cond.classLink "ViewRounds" 64 "ViewRounds$Reader" ∈ z_W := z_Win5 (List.mem_of_getElem? (i := 29) rfl)
theorem kw_230 : Cond.instantiable "ViewRounds$Reader" 7 ∈ z_W := z_Win5 (List.mem_of_getElem? (i := 30) rfl)
theorem kw_231 : Cond.methodLink "ViewRounds" 66 ⟨"ViewRounds$Reader", "<init>", "([BI)V"⟩ ∈ z_W := z_Win5 (List.mem_of_getElem? (i := 31) rfl)
theorem kw_232 : Cond.instanceMethod ⟨"ViewRounds$Reader", "<init>", "([BI)V"⟩ ∈ z_W := z_Win5 (List.mem_of_getElem? (i := 32) rfl)
theorem kw_233 : Cond.code ⟨"ViewRounds$Reader", "<init>", "([BI)V"⟩ prog_5_method_1_code 3 none ∈ z_W := z_Win5 (List.mem_of_getElem? (i := 33) rfl)
theorem kw_234 : Cond.methodLink "ViewRounds$Reader" 3 ⟨"java/lang/Object", "<init>", "()V"⟩ ∈ z_W := z_Win5 (List.mem_of_getElem? (i := 34) rfl)
theorem kw_235 : Cond.classLink "ViewRounds$Reader" 9 "ViewRounds$Program" ∈ z_W := z_Win5 (List.mem_of_getElem? (i := 35) rfl)
theorem kw_236 : Cond.classLink "ViewRounds$Reader" 22 "ViewRounds$Rule" ∈ z_W := z_Win5 (List.mem_of_getElem? (i := 36) rfl)
theorem kw_237 : Cond.methodLink "ViewRounds$Reader" 33 ⟨"java/lang/Math", "min", "(II)I"⟩ ∈ z_W := z_Win5 (List.mem_of_getElem? (i := 37) rfl)
theorem kw_238 : Cond.static ⟨"java/lang/Math", "min", "(II)I"⟩ ∈ z_W := z_Win5 (List.mem_of_getElem? (i := 38) rfl)
theorem kw_239 : Cond.code ⟨"java/lang/Math", "min", "(II)I"⟩ prog_11_method_69_code 2 (some .int) ∈ z_W := z_Win5 (List.mem_of_getElem? (i := 39) rfl)
theorem kw_240 : Cond.fieldLink "ViewRounds$Reader" 12 "ViewRounds$Reader" "program" "LViewRounds$Program;" ∈ z_W := z_Win6 (List.mem_of_getElem? (i := 0) rfl)
theorem kw_241 : Cond.fieldLink "ViewRounds" 85 "ViewRounds$Reader" "program" "LViewRounds$Program;" ∈ z_W := z_Win6 (List.mem_of_getElem? (i := 1) rfl)
theorem kw_242 : Cond.fieldLink "ViewRounds" 75 "ViewRounds$Reader" "fault" "I" ∈ z_W := z_Win6 (List.mem_of_getElem? (i := 2) rfl)
theorem kw_243 : Cond.fieldLink "ViewRounds$Reader" 156 "ViewRounds$Reader" "fault" "I" ∈ z_W := z_Win6 (List.mem_of_getElem? (i := 3) rfl)
theorem kw_244 : Cond.fieldLink "ViewRounds$Reader" 18 "ViewRounds$Reader" "faultPlace" "I" ∈ z_W := z_Win6 (List.mem_of_getElem? (i := 4) rfl)
theorem kw_245 : Cond.fieldLink "ViewRounds" 199 "ViewRounds$Reader" "faultPlace" "I" ∈ z_W := z_Win6 (List.mem_of_getElem? (i := 5) rfl)
theorem kw_246 : Cond.fieldLink "ViewRounds$Reader" 29 "ViewRounds$Reader" "text" "[B" ∈ z_W := z_Win6 (List.mem_of_getElem? (i := 6) rfl)
theorem kw_247 : Cond.fieldLink "ViewRounds$Reader" 39 "ViewRounds$Reader" "length" "I" ∈ z_W := z_Win6 (List.mem_of_getElem? (i := 7) rfl)
theorem kw_248 : Cond.fieldLink "ViewRounds$Reader" 87 "ViewRounds$Reader" "at" "I" ∈ z_W := z_Win6 (List.mem_of_getElem? (i := 8) rfl)
theorem kw_249 : Cond.fieldLink "ViewRounds$Reader" 25 "ViewRounds$Reader" "rule" "LViewRounds$Rule;" ∈ z_W := z_Win6 (List.mem_of_getElem? (i := 9) rfl)
theorem kw_250 : Cond.laysFinal "ViewRounds$Reader" "ViewRounds$Reader" "program" "LViewRounds$Program;" ∈ z_W := z_Win6 (List.mem_of_getElem? (i := 10) rfl)
theorem kw_251 : Cond.lays "ViewRounds$Reader" "ViewRounds$Reader" "fault" "I" ∈ z_W := z_Win6 (List.mem_of_getElem? (i := 11) rfl)
theorem kw_252 : Cond.lays "ViewRounds$Reader" "ViewRounds$Reader" "faultPlace" "I" ∈ z_W := z_Win6 (List.mem_of_getElem? (i := 12) rfl)
theorem kw_253 : Cond.laysFinal "ViewRounds$Reader" "ViewRounds$Reader" "text" "[B" ∈ z_W := z_Win6 (List.mem_of_getElem? (i := 13) rfl)
theorem kw_254 : Cond.laysFinal "ViewRounds$Reader" "ViewRounds$Reader" "length" "I" ∈ z_W := z_Win6 (List.mem_of_getElem? (i := 14) rfl)
theorem kw_255 : Cond.lays "ViewRounds$Reader" "ViewRounds$Reader" "at" "I" ∈ z_W := z_Win6 (List.mem_of_getElem? (i := 15) rfl)
theorem kw_256 : Cond.lays "ViewRounds$Reader" "ViewRounds$Reader" "rule" "LViewRounds$Rule;" ∈ z_W := z_Win6 (List.mem_of_getElem? (i := 16) rfl)
theorem kw_257 : Cond.methodLink "ViewRounds" 69 ⟨"ViewRounds$Reader", "readRules", "()V"⟩ ∈ z_W := z_Win6 (List.mem_of_getElem? (i := 17) rfl)
theorem kw_258 : Cond.instanceMethod ⟨"ViewRounds$Reader", "readRules", "()V"⟩ ∈ z_W := z_Win6 (List.mem_of_getElem? (i := 18) rfl)
theorem kw_259 : Cond.selects "ViewRounds$Reader" ⟨"ViewRounds$Reader", "readRules", "()V"⟩ ⟨"ViewRounds$Reader", "readRules", "()V"⟩ ∈ z_W := z_Win6 (List.mem_of_getElem? (i := 19) rfl)
theorem kw_260 : Cond.code ⟨"ViewRounds$Reader", "readRules", "()V"⟩ prog_5_method_2_code 3 none ∈ z_W := z_Win6 (List.mem_of_getElem? (i := 20) rfl)
theorem kw_261 : Cond.methodLink "ViewRounds$Reader" 42 ⟨"ViewRounds$Reader", "sign", "()I"⟩ ∈ z_W := z_Win6 (List.mem_of_getElem? (i := 21) rfl)
theorem kw_262 : Cond.instanceMethod ⟨"ViewRounds$Reader", "sign", "()I"⟩ ∈ z_W := z_Win6 (List.mem_of_getElem? (i := 22) rfl)
theorem kw_263 : Cond.code ⟨"ViewRounds$Reader", "sign", "()I"⟩ prog_5_method_11_code 1 (some .int) ∈ z_W := z_Win6 (List.mem_of_getElem? (i := 23) rfl)
theorem kw_264 : Cond.methodLink "ViewRounds$Reader" 46 ⟨"ViewRounds$Reader", "readRule", "()Z"⟩ ∈ z_W := z_Win6 (List.mem_of_getElem? (i := 24) rfl)
theorem kw_265 : Cond.instanceMethod ⟨"ViewRounds$Reader", "readRule", "()Z"⟩ ∈ z_W := z_Win6 (List.mem_of_getElem? (i := 25) rfl)
theorem kw_266 : Cond.code ⟨"ViewRounds$Reader", "readRule", "()Z"⟩ prog_5_method_3_code 2 (some .boolean) ∈ z_W := z_Win6 (List.mem_of_getElem? (i := 26) rfl)
theorem kw_267 : Cond.methodLink "ViewRounds$Reader" 57 ⟨"ViewRounds$Reader", "isName", "(I)Z"⟩ ∈ z_W := z_Win6 (List.mem_of_getElem? (i := 27) rfl)
theorem kw_268 : Cond.static ⟨"ViewRounds$Reader", "isName", "(I)Z"⟩ ∈ z_W := z_Win6 (List.mem_of_getElem? (i := 28) rfl)
theorem kw_269 : Cond.code ⟨"ViewRounds$Reader", "isName", "(I)Z"⟩ prog_5_method_13_code 1 (some .boolean) ∈ z_W := z_Win6 (List.mem_of_getElem? (i := 29) rfl)
theorem kw_270 : Cond.methodLink "ViewRounds$Reader" 53 ⟨"ViewRounds$Reader", "fail", "(I)Z"⟩ ∈ z_W := z_Win6 (List.mem_of_getElem? (i := 30) rfl)
theorem kw_271 : Cond.instanceMethod ⟨"ViewRounds$Reader", "fail", "(I)Z"⟩ ∈ z_W := z_Win6 (List.mem_of_getElem? (i := 31) rfl)
theorem kw_272 : Cond.code ⟨"ViewRounds$Reader", "fail", "(I)Z"⟩ prog_5_method_12_code 2 (some .boolean) ∈ z_W := z_Win6 (List.mem_of_getElem? (i := 32) rfl)
theorem kw_273 : Cond.methodLink "ViewRounds$Reader" 67 ⟨"ViewRounds$Reader", "readNamed", "(LViewRounds$Atom;Z)Z"⟩ ∈ z_W := z_Win6 (List.mem_of_getElem? (i := 33) rfl)
theorem kw_274 : Cond.instanceMethod ⟨"ViewRounds$Reader", "readNamed", "(LViewRounds$Atom;Z)Z"⟩ ∈ z_W := z_Win6 (List.mem_of_getElem? (i := 34) rfl)
theorem kw_275 : Cond.code ⟨"ViewRounds$Reader", "readNamed", "(LViewRounds$Atom;Z)Z"⟩ prog_5_method_7_code 8 (some .boolean) ∈ z_W := z_Win6 (List.mem_of_getElem? (i := 35) rfl)
theorem kw_276 : Cond.methodLink "ViewRounds$Reader" 128 ⟨"ViewRounds$Program", "relationNamed", "(I)I"⟩ ∈ z_W := z_Win6 (List.mem_of_getElem? (i := 36) rfl)
theorem kw_277 : Cond.instanceMethod ⟨"ViewRounds$Program", "relationNamed", "(I)I"⟩ ∈ z_W := z_Win6 (List.mem_of_getElem? (i := 37) rfl)
theorem kw_278 : Cond.selects "ViewRounds$Program" ⟨"ViewRounds$Program", "relationNamed", "(I)I"⟩ ⟨"ViewRounds$Program", "relationNamed", "(I)I"⟩ ∈ z_W := z_Win6 (List.mem_of_getElem? (i := 38) rfl)
theorem kw_279 : Cond.code ⟨"ViewRounds$Program", "relationNamed", "(I)I"⟩ prog_4_method_5_code 3 (some .int) ∈ z_W := z_Win6 (List.mem_of_getElem? (i := 39) rfl)
theorem kw_280 : Cond.methodLink "ViewRounds$Reader" 132 ⟨"ViewRounds$Program", "relationMade", "(I)I"⟩ ∈ z_W := z_Win7 (List.mem_of_getElem? (i := 0) rfl)
theorem kw_281 : Cond.instanceMethod ⟨"ViewRounds$Program", "relationMade", "(I)I"⟩ ∈ z_W := z_Win7 (List.mem_of_getElem? (i := 1) rfl)
theorem kw_282 : Cond.selects "ViewRounds$Program" ⟨"ViewRounds$Program", "relationMade", "(I)I"⟩ ⟨"ViewRounds$Program", "relationMade", "(I)I"⟩ ∈ z_W := z_Win7 (List.mem_of_getElem? (i := 2) rfl)
theorem kw_283 : Cond.code ⟨"ViewRounds$Program", "relationMade", "(I)I"⟩ prog_4_method_6_code 3 (some .int) ∈ z_W := z_Win7 (List.mem_of_getElem? (i := 3) rfl)
theorem kw_284 : Cond.methodLink "ViewRounds$Program" 48 ⟨"ViewRounds$Program", "relationNamed", "(I)I"⟩ ∈ z_W := z_Win7 (List.mem_of_getElem? (i := 4) rfl)
theorem kw_285 : Cond.methodLink "ViewRounds$Reader" 74 ⟨"ViewRounds$Reader", "takes", "(I)Z"⟩ ∈ z_W := z_Win7 (List.mem_of_getElem? (i := 5) rfl)
theorem kw_286 : Cond.instanceMethod ⟨"ViewRounds$Reader", "takes", "(I)Z"⟩ ∈ z_W := z_Win7 (List.mem_of_getElem? (i := 6) rfl)
theorem kw_287 : Cond.code ⟨"ViewRounds$Reader", "takes", "(I)Z"⟩ prog_5_method_10_code 2 (some .boolean) ∈ z_W := z_Win7 (List.mem_of_getElem? (i := 7) rfl)
theorem kw_288 : Cond.methodLink "ViewRounds$Reader" 115 ⟨"ViewRounds$Reader", "readTerm", "(LViewRounds$Atom;Z)Z"⟩ ∈ z_W := z_Win7 (List.mem_of_getElem? (i := 8) rfl)
theorem kw_289 : Cond.instanceMethod ⟨"ViewRounds$Reader", "readTerm", "(LViewRounds$Atom;Z)Z"⟩ ∈ z_W := z_Win7 (List.mem_of_getElem? (i := 9) rfl)
theorem kw_290 : Cond.code ⟨"ViewRounds$Reader", "readTerm", "(LViewRounds$Atom;Z)Z"⟩ prog_5_method_8_code 4 (some .boolean) ∈ z_W := z_Win7 (List.mem_of_getElem? (i := 10) rfl)
theorem kw_291 : Cond.methodLink "ViewRounds$Reader" 100 ⟨"ViewRounds$Reader", "isDigit", "(I)Z"⟩ ∈ z_W := z_Win7 (List.mem_of_getElem? (i := 11) rfl)
theorem kw_292 : Cond.static ⟨"ViewRounds$Reader", "isDigit", "(I)Z"⟩ ∈ z_W := z_Win7 (List.mem_of_getElem? (i := 12) rfl)
theorem kw_293 : Cond.code ⟨"ViewRounds$Reader", "isDigit", "(I)Z"⟩ prog_5_method_15_code 1 (some .boolean) ∈ z_W := z_Win7 (List.mem_of_getElem? (i := 13) rfl)
theorem kw_294 : Cond.methodLink "ViewRounds$Reader" 147 ⟨"ViewRounds$Reader", "readNumber", "()I"⟩ ∈ z_W := z_Win7 (List.mem_of_getElem? (i := 14) rfl)
theorem kw_295 : Cond.instanceMethod ⟨"ViewRounds$Reader", "readNumber", "()I"⟩ ∈ z_W := z_Win7 (List.mem_of_getElem? (i := 15) rfl)
theorem kw_296 : Cond.code ⟨"ViewRounds$Reader", "readNumber", "()I"⟩ prog_5_method_9_code 3 (some .int) ∈ z_W := z_Win7 (List.mem_of_getElem? (i := 16) rfl)
theorem kw_297 : Cond.methodLink "ViewRounds$Reader" 150 ⟨"ViewRounds$Atom", "append", "(I)V"⟩ ∈ z_W := z_Win7 (List.mem_of_getElem? (i := 17) rfl)
theorem kw_298 : Cond.instanceMethod ⟨"ViewRounds$Atom", "append", "(I)V"⟩ ∈ z_W := z_Win7 (List.mem_of_getElem? (i := 18) rfl)
theorem kw_299 : Cond.selects "ViewRounds$Atom" ⟨"ViewRounds$Atom", "append", "(I)V"⟩ ⟨"ViewRounds$Atom", "append", "(I)V"⟩ ∈ z_W := z_Win7 (List.mem_of_getElem? (i := 19) rfl)
theorem kw_300 : Cond.code ⟨"ViewRounds$Atom", "append", "(I)V"⟩ prog_2_method_2_code 2 none ∈ z_W := z_Win7 (List.mem_of_getElem? (i := 20) rfl)
theorem kw_301 : Cond.methodLink "ViewRounds$Reader" 97 ⟨"ViewRounds$Reader", "isVariable", "(I)Z"⟩ ∈ z_W := z_Win7 (List.mem_of_getElem? (i := 21) rfl)
theorem kw_302 : Cond.static ⟨"ViewRounds$Reader", "isVariable", "(I)Z"⟩ ∈ z_W := z_Win7 (List.mem_of_getElem? (i := 22) rfl)
theorem kw_303 : Cond.code ⟨"ViewRounds$Reader", "isVariable", "(I)Z"⟩ prog_5_method_14_code 1 (some .boolean) ∈ z_W := z_Win7 (List.mem_of_getElem? (i := 23) rfl)
theorem kw_304 : Cond.methodLink "ViewRounds$Reader" 153 ⟨"ViewRounds$Rule", "takesVariable", "(I)Z"⟩ ∈ z_W := z_Win7 (List.mem_of_getElem? (i := 24) rfl)
theorem kw_305 : Cond.instanceMethod ⟨"ViewRounds$Rule", "takesVariable", "(I)Z"⟩ ∈ z_W := z_Win7 (List.mem_of_getElem? (i := 25) rfl)
theorem kw_306 : Cond.selects "ViewRounds$Rule" ⟨"ViewRounds$Rule", "takesVariable", "(I)Z"⟩ ⟨"ViewRounds$Rule", "takesVariable", "(I)Z"⟩ ∈ z_W := z_Win7 (List.mem_of_getElem? (i := 26) rfl)
theorem kw_307 : Cond.code ⟨"ViewRounds$Rule", "takesVariable", "(I)Z"⟩ prog_7_method_3_code 2 (some .boolean) ∈ z_W := z_Win7 (List.mem_of_getElem? (i := 27) rfl)
theorem kw_308 : Cond.static ⟨"ViewRounds", "isIn", "(II)Z"⟩ ∈ z_W := z_Win7 (List.mem_of_getElem? (i := 28) rfl)
theorem kw_309 : Cond.code ⟨"ViewRounds", "isIn", "(II)Z"⟩ prog_1_method_28_code 2 (some .boolean) ∈ z_W := z_Win7 (List.mem_of_getElem? (i := 29) rfl)
theorem kw_310 : Cond.methodLink "ViewRounds$Reader" 71 ⟨"ViewRounds$Reader", "closeRule", "()Z"⟩ ∈ z_W := z_Win7 (List.mem_of_getElem? (i := 30) rfl)
theorem kw_311 : Cond.instanceMethod ⟨"ViewRounds$Reader", "closeRule", "()Z"⟩ ∈ z_W := z_Win7 (List.mem_of_getElem? (i := 31) rfl)
theorem kw_312 : Cond.code ⟨"ViewRounds$Reader", "closeRule", "()Z"⟩ prog_5_method_4_code 1 (some .boolean) ∈ z_W := z_Win7 (List.mem_of_getElem? (i := 32) rfl)
theorem kw_313 : Cond.methodLink "ViewRounds$Reader" 80 ⟨"ViewRounds$Rule", "hasLooseVariable", "()Z"⟩ ∈ z_W := z_Win7 (List.mem_of_getElem? (i := 33) rfl)
theorem kw_314 : Cond.instanceMethod ⟨"ViewRounds$Rule", "hasLooseVariable", "()Z"⟩ ∈ z_W := z_Win7 (List.mem_of_getElem? (i := 34) rfl)
theorem kw_315 : Cond.selects "ViewRounds$Rule" ⟨"ViewRounds$Rule", "hasLooseVariable", "()Z"⟩ ⟨"ViewRounds$Rule", "hasLooseVariable", "()Z"⟩ ∈ z_W := z_Win7 (List.mem_of_getElem? (i := 35) rfl)
theorem kw_316 : Cond.code ⟨"ViewRounds$Rule", "hasLooseVariable", "()Z"⟩ prog_7_method_4_code 4 (some .boolean) ∈ z_W := z_Win7 (List.mem_of_getElem? (i := 36) rfl)
theorem kw_317 : Cond.methodLink "ViewRounds$Reader" 83 ⟨"ViewRounds$Program", "refusesCount", "(LViewRounds$Rule;)Z"⟩ ∈ z_W := z_Win7 (List.mem_of_getElem? (i := 37) rfl)
theorem kw_318 : Cond.instanceMethod ⟨"ViewRounds$Program", "refusesCount", "(LViewRounds$Rule;)Z"⟩ ∈ z_W := z_Win7 (List.mem_of_getElem? (i := 38) rfl)
theorem kw_319 : Cond.selects "ViewRounds$Program" ⟨"ViewRounds$Program", "refusesCount", "(LViewRounds$Rule;)Z"⟩ ⟨"ViewRounds$Program", "refusesCount", "(LViewRounds$Rule;)Z"⟩ ∈ z_W := z_Win7 (List.mem_of_getElem? (i := 39) rfl)
theorem kw_320 : Cond.code ⟨"ViewRounds$Program", "refusesCount", "(LViewRounds$Rule;)Z"⟩ prog_4_method_7_code 2 (some .boolean) ∈ z_W := z_Win8 (List.mem_of_getElem? (i := 0) rfl)
theorem kw_321 : Cond.methodLink "ViewRounds$Program" 68 ⟨"ViewRounds$Program", "isView", "(I)Z"⟩ ∈ z_W := z_Win8 (List.mem_of_getElem? (i := 1) rfl)
theorem kw_322 : Cond.instanceMethod ⟨"ViewRounds$Program", "isView", "(I)Z"⟩ ∈ z_W := z_Win8 (List.mem_of_getElem? (i := 2) rfl)
theorem kw_323 : Cond.selects "ViewRounds$Program" ⟨"ViewRounds$Program", "isView", "(I)Z"⟩ ⟨"ViewRounds$Program", "isView", "(I)Z"⟩ ∈ z_W := z_Win8 (List.mem_of_getElem? (i := 3) rfl)
theorem kw_324 : Cond.code ⟨"ViewRounds$Program", "isView", "(I)Z"⟩ prog_4_method_3_code 2 (some .boolean) ∈ z_W := z_Win8 (List.mem_of_getElem? (i := 4) rfl)
theorem kw_325 : Cond.methodLink "ViewRounds$Program" 34 ⟨"ViewRounds$Program", "isRelation", "(I)Z"⟩ ∈ z_W := z_Win8 (List.mem_of_getElem? (i := 5) rfl)
theorem kw_326 : Cond.instanceMethod ⟨"ViewRounds$Program", "isRelation", "(I)Z"⟩ ∈ z_W := z_Win8 (List.mem_of_getElem? (i := 6) rfl)
theorem kw_327 : Cond.selects "ViewRounds$Program" ⟨"ViewRounds$Program", "isRelation", "(I)Z"⟩ ⟨"ViewRounds$Program", "isRelation", "(I)Z"⟩ ∈ z_W := z_Win8 (List.mem_of_getElem? (i := 7) rfl)
theorem kw_328 : Cond.code ⟨"ViewRounds$Program", "isRelation", "(I)Z"⟩ prog_4_method_2_code 2 (some .boolean) ∈ z_W := z_Win8 (List.mem_of_getElem? (i := 8) rfl)
theorem kw_329 : Cond.methodLink "ViewRounds$Program" 71 ⟨"ViewRounds$Program", "isCounted", "(I)Z"⟩ ∈ z_W := z_Win8 (List.mem_of_getElem? (i := 9) rfl)
theorem kw_330 : Cond.instanceMethod ⟨"ViewRounds$Program", "isCounted", "(I)Z"⟩ ∈ z_W := z_Win8 (List.mem_of_getElem? (i := 10) rfl)
theorem kw_331 : Cond.selects "ViewRounds$Program" ⟨"ViewRounds$Program", "isCounted", "(I)Z"⟩ ⟨"ViewRounds$Program", "isCounted", "(I)Z"⟩ ∈ z_W := z_Win8 (List.mem_of_getElem? (i := 11) rfl)
theorem kw_332 : Cond.code ⟨"ViewRounds$Program", "isCounted", "(I)Z"⟩ prog_4_method_4_code 2 (some .boolean) ∈ z_W := z_Win8 (List.mem_of_getElem? (i := 12) rfl)
theorem kw_333 : Cond.methodLink "ViewRounds$Reader" 90 ⟨"ViewRounds$Rule", "arrange", "()V"⟩ ∈ z_W := z_Win8 (List.mem_of_getElem? (i := 13) rfl)
theorem kw_334 : Cond.instanceMethod ⟨"ViewRounds$Rule", "arrange", "()V"⟩ ∈ z_W := z_Win8 (List.mem_of_getElem? (i := 14) rfl)
theorem kw_335 : Cond.selects "ViewRounds$Rule" ⟨"ViewRounds$Rule", "arrange", "()V"⟩ ⟨"ViewRounds$Rule", "arrange", "()V"⟩ ∈ z_W := z_Win8 (List.mem_of_getElem? (i := 15) rfl)
theorem kw_336 : Cond.code ⟨"ViewRounds$Rule", "arrange", "()V"⟩ prog_7_method_5_code 6 none ∈ z_W := z_Win8 (List.mem_of_getElem? (i := 16) rfl)
theorem kw_337 : Cond.methodLink "ViewRounds$Rule" 43 ⟨"ViewRounds$Rule", "nextLiteral", "(II)I"⟩ ∈ z_W := z_Win8 (List.mem_of_getElem? (i := 17) rfl)
theorem kw_338 : Cond.instanceMethod ⟨"ViewRounds$Rule", "nextLiteral", "(II)I"⟩ ∈ z_W := z_Win8 (List.mem_of_getElem? (i := 18) rfl)
theorem kw_339 : Cond.code ⟨"ViewRounds$Rule", "nextLiteral", "(II)I"⟩ prog_7_method_6_code 6 (some .int) ∈ z_W := z_Win8 (List.mem_of_getElem? (i := 19) rfl)
theorem kw_340 : Cond.methodLink "ViewRounds$Reader" 93 ⟨"ViewRounds$Program", "append", "(LViewRounds$Rule;)V"⟩ ∈ z_W := z_Win8 (List.mem_of_getElem? (i := 20) rfl)
theorem kw_341 : Cond.instanceMethod ⟨"ViewRounds$Program", "append", "(LViewRounds$Rule;)V"⟩ ∈ z_W := z_Win8 (List.mem_of_getElem? (i := 21) rfl)
theorem kw_342 : Cond.selects "ViewRounds$Program" ⟨"ViewRounds$Program", "append", "(LViewRounds$Rule;)V"⟩ ⟨"ViewRounds$Program", "append", "(LViewRounds$Rule;)V"⟩ ∈ z_W := z_Win8 (List.mem_of_getElem? (i := 22) rfl)
theorem kw_343 : Cond.code ⟨"ViewRounds$Program", "append", "(LViewRounds$Rule;)V"⟩ prog_4_method_8_code 2 none ∈ z_W := z_Win8 (List.mem_of_getElem? (i := 23) rfl)
theorem kw_344 : Cond.methodLink "ViewRounds$Reader" 77 ⟨"ViewRounds$Reader", "readLiteral", "()Z"⟩ ∈ z_W := z_Win8 (List.mem_of_getElem? (i := 24) rfl)
theorem kw_345 : Cond.instanceMethod ⟨"ViewRounds$Reader", "readLiteral", "()Z"⟩ ∈ z_W := z_Win8 (List.mem_of_getElem? (i := 25) rfl)
theorem kw_346 : Cond.code ⟨"ViewRounds$Reader", "readLiteral", "()Z"⟩ prog_5_method_5_code 6 (some .boolean) ∈ z_W := z_Win8 (List.mem_of_getElem? (i := 26) rfl)
theorem kw_347 : Cond.classLink "ViewRounds$Reader" 109 "ViewRounds$Atom" ∈ z_W := z_Win8 (List.mem_of_getElem? (i := 27) rfl)
theorem kw_348 : Cond.methodLink "ViewRounds$Reader" 118 ⟨"ViewRounds$Reader", "readOperator", "(LViewRounds$Atom;)Z"⟩ ∈ z_W := z_Win8 (List.mem_of_getElem? (i := 28) rfl)
theorem kw_349 : Cond.instanceMethod ⟨"ViewRounds$Reader", "readOperator", "(LViewRounds$Atom;)Z"⟩ ∈ z_W := z_Win8 (List.mem_of_getElem? (i := 29) rfl)
theorem kw_350 : Cond.code ⟨"ViewRounds$Reader", "readOperator", "(LViewRounds$Atom;)Z"⟩ prog_5_method_6_code 3 (some .boolean) ∈ z_W := z_Win8 (List.mem_of_getElem? (i := 30) rfl)
theorem kw_351 : Cond.methodLink "ViewRounds$Reader" 122 ⟨"ViewRounds$Rule", "append", "(LViewRounds$Atom;)V"⟩ ∈ z_W := z_Win8 (List.mem_of_getElem? (i := 31) rfl)
theorem kw_352 : Cond.instanceMethod ⟨"ViewRounds$Rule", "append", "(LViewRounds$Atom;)V"⟩ ∈ z_W := z_Win8 (List.mem_of_getElem? (i := 32) rfl)
theorem kw_353 : Cond.selects "ViewRounds$Rule" ⟨"ViewRounds$Rule", "append", "(LViewRounds$Atom;)V"⟩ ⟨"ViewRounds$Rule", "append", "(LViewRounds$Atom;)V"⟩ ∈ z_W := z_Win8 (List.mem_of_getElem? (i := 33) rfl)
theorem kw_354 : Cond.code ⟨"ViewRounds$Rule", "append", "(LViewRounds$Atom;)V"⟩ prog_7_method_2_code 2 none ∈ z_W := z_Win8 (List.mem_of_getElem? (i := 34) rfl)
theorem kw_355 : Cond.methodLink "ViewRounds$Reader" 50 ⟨"ViewRounds$Program", "findLayers", "()Z"⟩ ∈ z_W := z_Win8 (List.mem_of_getElem? (i := 35) rfl)
theorem kw_356 : Cond.instanceMethod ⟨"ViewRounds$Program", "findLayers", "()Z"⟩ ∈ z_W := z_Win8 (List.mem_of_getElem? (i := 36) rfl)
theorem kw_357 : Cond.selects "ViewRounds$Program" ⟨"ViewRounds$Program", "findLayers", "()Z"⟩ ⟨"ViewRounds$Program", "findLayers", "()Z"⟩ ∈ z_W := z_Win8 (List.mem_of_getElem? (i := 37) rfl)
theorem kw_358 : Cond.code ⟨"ViewRounds$Program", "findLayers", "()Z"⟩ prog_4_method_9_code 2 (some .boolean) ∈ z_W := z_Win8 (List.mem_of_getElem? (i := 38) rfl)
theorem kw_359 : Cond.methodLink "ViewRounds$Program" 77 ⟨"ViewRounds$Program", "findReach", "()V"⟩ ∈ z_W := z_Win8 (List.mem_of_getElem? (i := 39) rfl)
theorem kw_360 : Cond.instanceMethod ⟨"ViewRounds$Program", "findReach", "()V"⟩ ∈ z_W := z_Win9 (List.mem_of_getElem? (i := 0) rfl)
theorem kw_361 : Cond.code ⟨"ViewRounds$Program", "findReach", "()V"⟩ prog_4_method_10_code 4 none ∈ z_W := z_Win9 (List.mem_of_getElem? (i := 1) rfl)
theorem kw_362 : Cond.methodLink "ViewRounds$Program" 80 ⟨"ViewRounds$Program", "findRing", "()V"⟩ ∈ z_W := z_Win9 (List.mem_of_getElem? (i := 2) rfl)
theorem kw_363 : Cond.instanceMethod ⟨"ViewRounds$Program", "findRing", "()V"⟩ ∈ z_W := z_Win9 (List.mem_of_getElem? (i := 3) rfl)
theorem kw_364 : Cond.code ⟨"ViewRounds$Program", "findRing", "()V"⟩ prog_4_method_11_code 6 none ∈ z_W := z_Win9 (List.mem_of_getElem? (i := 4) rfl)
theorem kw_365 : Cond.methodLink "ViewRounds$Program" 105 ⟨"ViewRounds$Program", "mustLieBelow", "(LViewRounds$Rule;LViewRounds$Atom;)Z"⟩ ∈ z_W := z_Win9 (List.mem_of_getElem? (i := 5) rfl)
theorem kw_366 : Cond.instanceMethod ⟨"ViewRounds$Program", "mustLieBelow", "(LViewRounds$Rule;LViewRounds$Atom;)Z"⟩ ∈ z_W := z_Win9 (List.mem_of_getElem? (i := 6) rfl)
theorem kw_367 : Cond.code ⟨"ViewRounds$Program", "mustLieBelow", "(LViewRounds$Rule;LViewRounds$Atom;)Z"⟩ prog_4_method_12_code 3 (some .boolean) ∈ z_W := z_Win9 (List.mem_of_getElem? (i := 7) rfl)
theorem kw_368 : Cond.methodLink "ViewRounds$Program" 109 ⟨"ViewRounds$Program", "ringThrough", "(I)I"⟩ ∈ z_W := z_Win9 (List.mem_of_getElem? (i := 8) rfl)
theorem kw_369 : Cond.instanceMethod ⟨"ViewRounds$Program", "ringThrough", "(I)I"⟩ ∈ z_W := z_Win9 (List.mem_of_getElem? (i := 9) rfl)
theorem kw_370 : Cond.code ⟨"ViewRounds$Program", "ringThrough", "(I)I"⟩ prog_4_method_13_code 4 (some .int) ∈ z_W := z_Win9 (List.mem_of_getElem? (i := 10) rfl)
theorem kw_371 : Cond.methodLink "ViewRounds$Program" 112 ⟨"ViewRounds$Program", "chooseRing", "(I)V"⟩ ∈ z_W := z_Win9 (List.mem_of_getElem? (i := 11) rfl)
theorem kw_372 : Cond.instanceMethod ⟨"ViewRounds$Program", "chooseRing", "(I)V"⟩ ∈ z_W := z_Win9 (List.mem_of_getElem? (i := 12) rfl)
theorem kw_373 : Cond.code ⟨"ViewRounds$Program", "chooseRing", "(I)V"⟩ prog_4_method_14_code 2 none ∈ z_W := z_Win9 (List.mem_of_getElem? (i := 13) rfl)
theorem kw_374 : Cond.methodLink "ViewRounds$Program" 86 ⟨"ViewRounds$Program", "raiseLayers", "()V"⟩ ∈ z_W := z_Win9 (List.mem_of_getElem? (i := 14) rfl)
theorem kw_375 : Cond.instanceMethod ⟨"ViewRounds$Program", "raiseLayers", "()V"⟩ ∈ z_W := z_Win9 (List.mem_of_getElem? (i := 15) rfl)
theorem kw_376 : Cond.code ⟨"ViewRounds$Program", "raiseLayers", "()V"⟩ prog_4_method_15_code 7 none ∈ z_W := z_Win9 (List.mem_of_getElem? (i := 16) rfl)
theorem kw_377 : Cond.methodLink "ViewRounds$Program" 92 ⟨"java/lang/Math", "max", "(II)I"⟩ ∈ z_W := z_Win9 (List.mem_of_getElem? (i := 17) rfl)
theorem kw_378 : Cond.methodLink "ViewRounds" 72 ⟨"ViewRounds", "forgetRules", "()V"⟩ ∈ z_W := z_Win9 (List.mem_of_getElem? (i := 18) rfl)
theorem kw_379 : Cond.instanceMethod ⟨"ViewRounds", "forgetRules", "()V"⟩ ∈ z_W := z_Win9 (List.mem_of_getElem? (i := 19) rfl)
theorem kw_380 : Cond.code ⟨"ViewRounds", "forgetRules", "()V"⟩ prog_1_method_20_code 1 none ∈ z_W := z_Win9 (List.mem_of_getElem? (i := 20) rfl)
theorem kw_381 : Cond.methodLink "ViewRounds" 78 ⟨"ViewRounds", "keepFault", "(LViewRounds$Reader;)V"⟩ ∈ z_W := z_Win9 (List.mem_of_getElem? (i := 21) rfl)
theorem kw_382 : Cond.instanceMethod ⟨"ViewRounds", "keepFault", "(LViewRounds$Reader;)V"⟩ ∈ z_W := z_Win9 (List.mem_of_getElem? (i := 22) rfl)
theorem kw_383 : Cond.code ⟨"ViewRounds", "keepFault", "(LViewRounds$Reader;)V"⟩ prog_1_method_21_code 3 none ∈ z_W := z_Win9 (List.mem_of_getElem? (i := 23) rfl)
theorem kw_384 : Cond.methodLink "ViewRounds" 123 ⟨"ViewRounds", "isIn", "(II)Z"⟩ ∈ z_W := z_Win9 (List.mem_of_getElem? (i := 24) rfl)
theorem kw_385 : Cond.methodLink "ViewRounds" 86 ⟨"ViewRounds$Engine", "workViews", "(LViewRounds$Program;[LViewRounds$Rows;)Z"⟩ ∈ z_W := z_Win9 (List.mem_of_getElem? (i := 25) rfl)
theorem kw_386 : Cond.instanceMethod ⟨"ViewRounds$Engine", "workViews", "(LViewRounds$Program;[LViewRounds$Rows;)Z"⟩ ∈ z_W := z_Win9 (List.mem_of_getElem? (i := 26) rfl)
theorem kw_387 : Cond.selects "ViewRounds$Engine" ⟨"ViewRounds$Engine", "workViews", "(LViewRounds$Program;[LViewRounds$Rows;)Z"⟩ ⟨"ViewRounds$Engine", "workViews", "(LViewRounds$Program;[LViewRounds$Rows;)Z"⟩ ∈ z_W := z_Win9 (List.mem_of_getElem? (i := 27) rfl)
theorem kw_388 : Cond.code ⟨"ViewRounds$Engine", "workViews", "(LViewRounds$Program;[LViewRounds$Rows;)Z"⟩ prog_3_method_2_code 4 (some .boolean) ∈ z_W := z_Win9 (List.mem_of_getElem? (i := 28) rfl)
theorem kw_389 : Cond.methodLink "ViewRounds$Engine" 44 ⟨"ViewRounds$Engine", "begin", "(LViewRounds$Program;[LViewRounds$Rows;I)V"⟩ ∈ z_W := z_Win9 (List.mem_of_getElem? (i := 29) rfl)
theorem kw_390 : Cond.instanceMethod ⟨"ViewRounds$Engine", "begin", "(LViewRounds$Program;[LViewRounds$Rows;I)V"⟩ ∈ z_W := z_Win9 (List.mem_of_getElem? (i := 30) rfl)
theorem kw_391 : Cond.code ⟨"ViewRounds$Engine", "begin", "(LViewRounds$Program;[LViewRounds$Rows;I)V"⟩ prog_3_method_5_code 4 none ∈ z_W := z_Win9 (List.mem_of_getElem? (i := 31) rfl)
theorem kw_392 : Cond.methodLink "ViewRounds$Engine" 52 ⟨"ViewRounds$Program", "isView", "(I)Z"⟩ ∈ z_W := z_Win9 (List.mem_of_getElem? (i := 32) rfl)
theorem kw_393 : Cond.methodLink "ViewRounds$Engine" 69 ⟨"ViewRounds$Engine", "seed", "(I)V"⟩ ∈ z_W := z_Win9 (List.mem_of_getElem? (i := 33) rfl)
theorem kw_394 : Cond.instanceMethod ⟨"ViewRounds$Engine", "seed", "(I)V"⟩ ∈ z_W := z_Win9 (List.mem_of_getElem? (i := 34) rfl)
theorem kw_395 : Cond.code ⟨"ViewRounds$Engine", "seed", "(I)V"⟩ prog_3_method_7_code 3 none ∈ z_W := z_Win9 (List.mem_of_getElem? (i := 35) rfl)
theorem kw_396 : Cond.methodLink "ViewRounds$Engine" 115 ⟨"ViewRounds$Engine", "usesLayer", "(I)Z"⟩ ∈ z_W := z_Win9 (List.mem_of_getElem? (i := 36) rfl)
theorem kw_397 : Cond.instanceMethod ⟨"ViewRounds$Engine", "usesLayer", "(I)Z"⟩ ∈ z_W := z_Win9 (List.mem_of_getElem? (i := 37) rfl)
theorem kw_398 : Cond.code ⟨"ViewRounds$Engine", "usesLayer", "(I)Z"⟩ prog_3_method_8_code 3 (some .boolean) ∈ z_W := z_Win9 (List.mem_of_getElem? (i := 38) rfl)
theorem kw_399 : Cond.methodLink "ViewRounds$Engine" 109 ⟨"ViewRounds$Engine", "solve", "(I)V"⟩ ∈ z_W := z_Win9 (List.mem_of_getElem? (i := 39) rfl)
theorem kw_400 : Cond.instanceMethod ⟨"ViewRounds$Engine", "solve", "(I)V"⟩ ∈ z_W := z_Win10 (List.mem_of_getElem? (i := 0) rfl)
theorem kw_401 : Cond.code ⟨"ViewRounds$Engine", "solve", "(I)V"⟩ prog_3_method_10_code 8 none ∈ z_W := z_Win10 (List.mem_of_getElem? (i := 1) rfl)
theorem kw_402 : Cond.methodLink "ViewRounds$Engine" 132 ⟨"ViewRounds$Engine", "isNothingNew", "()Z"⟩ ∈ z_W := z_Win10 (List.mem_of_getElem? (i := 2) rfl)
theorem kw_403 : Cond.instanceMethod ⟨"ViewRounds$Engine", "isNothingNew", "()Z"⟩ ∈ z_W := z_Win10 (List.mem_of_getElem? (i := 3) rfl)
theorem kw_404 : Cond.code ⟨"ViewRounds$Engine", "isNothingNew", "()Z"⟩ prog_3_method_11_code 2 (some .boolean) ∈ z_W := z_Win10 (List.mem_of_getElem? (i := 4) rfl)
theorem kw_405 : Cond.methodLink "ViewRounds$Engine" 167 ⟨"ViewRounds$Engine", "keyOf", "(LViewRounds$Atom;)I"⟩ ∈ z_W := z_Win10 (List.mem_of_getElem? (i := 5) rfl)
theorem kw_406 : Cond.instanceMethod ⟨"ViewRounds$Engine", "keyOf", "(LViewRounds$Atom;)I"⟩ ∈ z_W := z_Win10 (List.mem_of_getElem? (i := 6) rfl)
theorem kw_407 : Cond.code ⟨"ViewRounds$Engine", "keyOf", "(LViewRounds$Atom;)I"⟩ prog_3_method_19_code 4 (some .int) ∈ z_W := z_Win10 (List.mem_of_getElem? (i := 7) rfl)
theorem kw_408 : Cond.methodLink "ViewRounds$Engine" 155 ⟨"ViewRounds$Engine", "valueOf", "(I)I"⟩ ∈ z_W := z_Win10 (List.mem_of_getElem? (i := 8) rfl)
theorem kw_409 : Cond.instanceMethod ⟨"ViewRounds$Engine", "valueOf", "(I)I"⟩ ∈ z_W := z_Win10 (List.mem_of_getElem? (i := 9) rfl)
theorem kw_410 : Cond.code ⟨"ViewRounds$Engine", "valueOf", "(I)I"⟩ prog_3_method_21_code 2 (some .int) ∈ z_W := z_Win10 (List.mem_of_getElem? (i := 10) rfl)
theorem kw_411 : Cond.static ⟨"ViewRounds", "weight", "(I)I"⟩ ∈ z_W := z_Win10 (List.mem_of_getElem? (i := 11) rfl)
theorem kw_412 : Cond.code ⟨"ViewRounds", "weight", "(I)I"⟩ prog_1_method_29_code 1 (some .int) ∈ z_W := z_Win10 (List.mem_of_getElem? (i := 12) rfl)
theorem kw_413 : Cond.constant "ViewRounds" 224 (1000000 : Int32) ∈ z_W := z_Win10 (List.mem_of_getElem? (i := 13) rfl)
theorem kw_414 : Cond.methodLink "ViewRounds$Engine" 171 ⟨"ViewRounds$Rows", "countOf", "(I)I"⟩ ∈ z_W := z_Win10 (List.mem_of_getElem? (i := 14) rfl)
theorem kw_415 : Cond.instanceMethod ⟨"ViewRounds$Rows", "countOf", "(I)I"⟩ ∈ z_W := z_Win10 (List.mem_of_getElem? (i := 15) rfl)
theorem kw_416 : Cond.selects "ViewRounds$Rows" ⟨"ViewRounds$Rows", "countOf", "(I)I"⟩ ⟨"ViewRounds$Rows", "countOf", "(I)I"⟩ ∈ z_W := z_Win10 (List.mem_of_getElem? (i := 16) rfl)
theorem kw_417 : Cond.code ⟨"ViewRounds$Rows", "countOf", "(I)I"⟩ prog_6_method_3_code 3 (some .int) ∈ z_W := z_Win10 (List.mem_of_getElem? (i := 17) rfl)
theorem kw_418 : Cond.methodLink "ViewRounds$Rows" 22 ⟨"ViewRounds$Rows", "seek", "(I)I"⟩ ∈ z_W := z_Win10 (List.mem_of_getElem? (i := 18) rfl)
theorem kw_419 : Cond.instanceMethod ⟨"ViewRounds$Rows", "seek", "(I)I"⟩ ∈ z_W := z_Win10 (List.mem_of_getElem? (i := 19) rfl)
theorem kw_420 : Cond.selects "ViewRounds$Rows" ⟨"ViewRounds$Rows", "seek", "(I)I"⟩ ⟨"ViewRounds$Rows", "seek", "(I)I"⟩ ∈ z_W := z_Win10 (List.mem_of_getElem? (i := 20) rfl)
theorem kw_421 : Cond.code ⟨"ViewRounds$Rows", "seek", "(I)I"⟩ prog_6_method_2_code 5 (some .int) ∈ z_W := z_Win10 (List.mem_of_getElem? (i := 21) rfl)
theorem kw_422 : Cond.methodLink "ViewRounds$Engine" 136 ⟨"ViewRounds$Engine", "found", "()V"⟩ ∈ z_W := z_Win10 (List.mem_of_getElem? (i := 22) rfl)
theorem kw_423 : Cond.instanceMethod ⟨"ViewRounds$Engine", "found", "()V"⟩ ∈ z_W := z_Win10 (List.mem_of_getElem? (i := 23) rfl)
theorem kw_424 : Cond.code ⟨"ViewRounds$Engine", "found", "()V"⟩ prog_3_method_12_code 4 none ∈ z_W := z_Win10 (List.mem_of_getElem? (i := 24) rfl)
theorem kw_425 : Cond.methodLink "ViewRounds$Engine" 174 ⟨"ViewRounds$Rows", "add", "(II)I"⟩ ∈ z_W := z_Win10 (List.mem_of_getElem? (i := 25) rfl)
theorem kw_426 : Cond.instanceMethod ⟨"ViewRounds$Rows", "add", "(II)I"⟩ ∈ z_W := z_Win10 (List.mem_of_getElem? (i := 26) rfl)
theorem kw_427 : Cond.selects "ViewRounds$Rows" ⟨"ViewRounds$Rows", "add", "(II)I"⟩ ⟨"ViewRounds$Rows", "add", "(II)I"⟩ ∈ z_W := z_Win10 (List.mem_of_getElem? (i := 27) rfl)
theorem kw_428 : Cond.code ⟨"ViewRounds$Rows", "add", "(II)I"⟩ prog_6_method_4_code 5 (some .int) ∈ z_W := z_Win10 (List.mem_of_getElem? (i := 28) rfl)
theorem kw_429 : Cond.methodLink "ViewRounds$Engine" 178 ⟨"ViewRounds$Engine", "enqueue", "(II)V"⟩ ∈ z_W := z_Win10 (List.mem_of_getElem? (i := 29) rfl)
theorem kw_430 : Cond.instanceMethod ⟨"ViewRounds$Engine", "enqueue", "(II)V"⟩ ∈ z_W := z_Win10 (List.mem_of_getElem? (i := 30) rfl)
theorem kw_431 : Cond.code ⟨"ViewRounds$Engine", "enqueue", "(II)V"⟩ prog_3_method_13_code 3 none ∈ z_W := z_Win10 (List.mem_of_getElem? (i := 31) rfl)
theorem kw_432 : Cond.methodLink "ViewRounds$Engine" 182 ⟨"ViewRounds$Engine", "isLess", "()Z"⟩ ∈ z_W := z_Win10 (List.mem_of_getElem? (i := 32) rfl)
theorem kw_433 : Cond.instanceMethod ⟨"ViewRounds$Engine", "isLess", "()Z"⟩ ∈ z_W := z_Win10 (List.mem_of_getElem? (i := 33) rfl)
theorem kw_434 : Cond.code ⟨"ViewRounds$Engine", "isLess", "()Z"⟩ prog_3_method_15_code 3 (some .boolean) ∈ z_W := z_Win10 (List.mem_of_getElem? (i := 34) rfl)
theorem kw_435 : Cond.methodLink "ViewRounds$Engine" 185 ⟨"ViewRounds$Engine", "keepValues", "()V"⟩ ∈ z_W := z_Win10 (List.mem_of_getElem? (i := 35) rfl)
theorem kw_436 : Cond.instanceMethod ⟨"ViewRounds$Engine", "keepValues", "()V"⟩ ∈ z_W := z_Win10 (List.mem_of_getElem? (i := 36) rfl)
theorem kw_437 : Cond.code ⟨"ViewRounds$Engine", "keepValues", "()V"⟩ prog_3_method_16_code 3 none ∈ z_W := z_Win10 (List.mem_of_getElem? (i := 37) rfl)
theorem kw_438 : Cond.methodLink "ViewRounds$Engine" 139 ⟨"ViewRounds$Engine", "holds", "(LViewRounds$Atom;)Z"⟩ ∈ z_W := z_Win10 (List.mem_of_getElem? (i := 38) rfl)
theorem kw_439 : Cond.instanceMethod ⟨"ViewRounds$Engine", "holds", "(LViewRounds$Atom;)Z"⟩ ∈ z_W := z_Win10 (List.mem_of_getElem? (i := 39) rfl)
theorem kw_440 : Cond.code ⟨"ViewRounds$Engine", "holds", "(LViewRounds$Atom;)Z"⟩ prog_3_method_18_code 4 (some .boolean) ∈ z_W := z_Win11 (List.mem_of_getElem? (i := 0) rfl)
theorem kw_441 : Cond.constant "ViewRounds$Engine" 143 (1000000000 : Int32) ∈ z_W := z_Win11 (List.mem_of_getElem? (i := 1) rfl)
theorem kw_442 : Cond.methodLink "ViewRounds$Engine" 148 ⟨"ViewRounds$Engine", "isKnown", "(I)Z"⟩ ∈ z_W := z_Win11 (List.mem_of_getElem? (i := 2) rfl)
theorem kw_443 : Cond.instanceMethod ⟨"ViewRounds$Engine", "isKnown", "(I)Z"⟩ ∈ z_W := z_Win11 (List.mem_of_getElem? (i := 3) rfl)
theorem kw_444 : Cond.code ⟨"ViewRounds$Engine", "isKnown", "(I)Z"⟩ prog_3_method_20_code 2 (some .boolean) ∈ z_W := z_Win11 (List.mem_of_getElem? (i := 4) rfl)
theorem kw_445 : Cond.methodLink "ViewRounds$Engine" 158 ⟨"ViewRounds$Rows", "seek", "(I)I"⟩ ∈ z_W := z_Win11 (List.mem_of_getElem? (i := 5) rfl)
theorem kw_446 : Cond.methodLink "ViewRounds$Engine" 105 ⟨"ViewRounds$Engine", "matches", "(LViewRounds$Atom;I)Z"⟩ ∈ z_W := z_Win11 (List.mem_of_getElem? (i := 6) rfl)
theorem kw_447 : Cond.instanceMethod ⟨"ViewRounds$Engine", "matches", "(LViewRounds$Atom;I)Z"⟩ ∈ z_W := z_Win11 (List.mem_of_getElem? (i := 7) rfl)
theorem kw_448 : Cond.code ⟨"ViewRounds$Engine", "matches", "(LViewRounds$Atom;I)Z"⟩ prog_3_method_17_code 6 (some .boolean) ∈ z_W := z_Win11 (List.mem_of_getElem? (i := 8) rfl)
theorem kw_449 : Cond.static ⟨"ViewRounds", "valueAt", "(II)I"⟩ ∈ z_W := z_Win11 (List.mem_of_getElem? (i := 9) rfl)
theorem kw_450 : Cond.code ⟨"ViewRounds", "valueAt", "(II)I"⟩ prog_1_method_30_code 2 (some .int) ∈ z_W := z_Win11 (List.mem_of_getElem? (i := 10) rfl)
theorem kw_451 : Cond.methodLink "ViewRounds$Engine" 121 ⟨"ViewRounds$Engine", "closeCounts", "()V"⟩ ∈ z_W := z_Win11 (List.mem_of_getElem? (i := 11) rfl)
theorem kw_452 : Cond.instanceMethod ⟨"ViewRounds$Engine", "closeCounts", "()V"⟩ ∈ z_W := z_Win11 (List.mem_of_getElem? (i := 12) rfl)
theorem kw_453 : Cond.code ⟨"ViewRounds$Engine", "closeCounts", "()V"⟩ prog_3_method_14_code 3 none ∈ z_W := z_Win11 (List.mem_of_getElem? (i := 13) rfl)
theorem kw_454 : Cond.methodLink "ViewRounds$Engine" 73 ⟨"ViewRounds$Engine", "spread", "(I)V"⟩ ∈ z_W := z_Win11 (List.mem_of_getElem? (i := 14) rfl)
theorem kw_455 : Cond.instanceMethod ⟨"ViewRounds$Engine", "spread", "(I)V"⟩ ∈ z_W := z_Win11 (List.mem_of_getElem? (i := 15) rfl)
theorem kw_456 : Cond.code ⟨"ViewRounds$Engine", "spread", "(I)V"⟩ prog_3_method_9_code 6 none ∈ z_W := z_Win11 (List.mem_of_getElem? (i := 16) rfl)
theorem kw_457 : Cond.methodLink "ViewRounds" 90 ⟨"ViewRounds", "takeNext", "()V"⟩ ∈ z_W := z_Win11 (List.mem_of_getElem? (i := 17) rfl)
theorem kw_458 : Cond.instanceMethod ⟨"ViewRounds", "takeNext", "()V"⟩ ∈ z_W := z_Win11 (List.mem_of_getElem? (i := 18) rfl)
theorem kw_459 : Cond.code ⟨"ViewRounds", "takeNext", "()V"⟩ prog_1_method_26_code 2 none ∈ z_W := z_Win11 (List.mem_of_getElem? (i := 19) rfl)
theorem kw_460 : Cond.methodLink "ViewRoundsLaw" 25 ⟨"ViewRounds", "place", "()I"⟩ ∈ z_W := z_Win11 (List.mem_of_getElem? (i := 20) rfl)
theorem kw_461 : Cond.instanceMethod ⟨"ViewRounds", "place", "()I"⟩ ∈ z_W := z_Win11 (List.mem_of_getElem? (i := 21) rfl)
theorem kw_462 : Cond.selects "ViewRounds" ⟨"ViewRounds", "place", "()I"⟩ ⟨"ViewRounds", "place", "()I"⟩ ∈ z_W := z_Win11 (List.mem_of_getElem? (i := 22) rfl)
theorem kw_463 : Cond.code ⟨"ViewRounds", "place", "()I"⟩ prog_1_method_4_code 1 (some .int) ∈ z_W := z_Win11 (List.mem_of_getElem? (i := 23) rfl)
theorem kw_464 : Cond.methodLink "ViewRoundsLaw" 29 ⟨"ViewRounds", "ring", "(I)I"⟩ ∈ z_W := z_Win11 (List.mem_of_getElem? (i := 24) rfl)
theorem kw_465 : Cond.instanceMethod ⟨"ViewRounds", "ring", "(I)I"⟩ ∈ z_W := z_Win11 (List.mem_of_getElem? (i := 25) rfl)
theorem kw_466 : Cond.selects "ViewRounds" ⟨"ViewRounds", "ring", "(I)I"⟩ ⟨"ViewRounds", "ring", "(I)I"⟩ ∈ z_W := z_Win11 (List.mem_of_getElem? (i := 26) rfl)
theorem kw_467 : Cond.code ⟨"ViewRounds", "ring", "(I)I"⟩ prog_1_method_5_code 2 (some .int) ∈ z_W := z_Win11 (List.mem_of_getElem? (i := 27) rfl)
theorem kw_468 : Cond.methodLink "ViewRoundsLaw" 34 ⟨"ViewRounds", "relation", "(I)I"⟩ ∈ z_W := z_Win11 (List.mem_of_getElem? (i := 28) rfl)
theorem kw_469 : Cond.instanceMethod ⟨"ViewRounds", "relation", "(I)I"⟩ ∈ z_W := z_Win11 (List.mem_of_getElem? (i := 29) rfl)
theorem kw_470 : Cond.selects "ViewRounds" ⟨"ViewRounds", "relation", "(I)I"⟩ ⟨"ViewRounds", "relation", "(I)I"⟩ ∈ z_W := z_Win11 (List.mem_of_getElem? (i := 30) rfl)
theorem kw_471 : Cond.code ⟨"ViewRounds", "relation", "(I)I"⟩ prog_1_method_6_code 2 (some .int) ∈ z_W := z_Win11 (List.mem_of_getElem? (i := 31) rfl)
theorem kw_472 : Cond.methodLink "ViewRounds" 99 ⟨"ViewRounds", "hasNoRules", "()Z"⟩ ∈ z_W := z_Win11 (List.mem_of_getElem? (i := 32) rfl)
theorem kw_473 : Cond.instanceMethod ⟨"ViewRounds", "hasNoRules", "()Z"⟩ ∈ z_W := z_Win11 (List.mem_of_getElem? (i := 33) rfl)
theorem kw_474 : Cond.code ⟨"ViewRounds", "hasNoRules", "()Z"⟩ prog_1_method_19_code 1 (some .boolean) ∈ z_W := z_Win11 (List.mem_of_getElem? (i := 34) rfl)
theorem kw_475 : Cond.methodLink "ViewRounds" 103 ⟨"ViewRounds$Program", "relationNamed", "(I)I"⟩ ∈ z_W := z_Win11 (List.mem_of_getElem? (i := 35) rfl)
theorem kw_476 : Cond.methodLink "ViewRoundsLaw" 38 ⟨"ViewRounds", "of", "(II)I"⟩ ∈ z_W := z_Win11 (List.mem_of_getElem? (i := 36) rfl)
theorem kw_477 : Cond.instanceMethod ⟨"ViewRounds", "of", "(II)I"⟩ ∈ z_W := z_Win11 (List.mem_of_getElem? (i := 37) rfl)
theorem kw_478 : Cond.selects "ViewRounds" ⟨"ViewRounds", "of", "(II)I"⟩ ⟨"ViewRounds", "of", "(II)I"⟩ ∈ z_W := z_Win11 (List.mem_of_getElem? (i := 38) rfl)
theorem kw_479 : Cond.code ⟨"ViewRounds", "of", "(II)I"⟩ prog_1_method_7_code 3 (some .int) ∈ z_W := z_Win11 (List.mem_of_getElem? (i := 39) rfl)
theorem kw_480 : Cond.methodLink "ViewRounds" 107 ⟨"ViewRounds$Program", "isRelation", "(I)Z"⟩ ∈ z_W := z_Win12 (List.mem_of_getElem? (i := 0) rfl)
theorem kw_481 : Cond.methodLink "ViewRounds" 111 ⟨"ViewRounds$Program", "isView", "(I)Z"⟩ ∈ z_W := z_Win12 (List.mem_of_getElem? (i := 1) rfl)
theorem kw_482 : Cond.methodLink "ViewRoundsLaw" 43 ⟨"ViewRounds", "change", "(IIIII)I"⟩ ∈ z_W := z_Win12 (List.mem_of_getElem? (i := 2) rfl)
theorem kw_483 : Cond.instanceMethod ⟨"ViewRounds", "change", "(IIIII)I"⟩ ∈ z_W := z_Win12 (List.mem_of_getElem? (i := 3) rfl)
theorem kw_484 : Cond.selects "ViewRounds" ⟨"ViewRounds", "change", "(IIIII)I"⟩ ⟨"ViewRounds", "change", "(IIIII)I"⟩ ∈ z_W := z_Win12 (List.mem_of_getElem? (i := 4) rfl)
theorem kw_485 : Cond.code ⟨"ViewRounds", "change", "(IIIII)I"⟩ prog_1_method_8_code 7 (some .int) ∈ z_W := z_Win12 (List.mem_of_getElem? (i := 5) rfl)
theorem kw_486 : Cond.methodLink "ViewRounds" 127 ⟨"ViewRounds", "pack", "(IIII)I"⟩ ∈ z_W := z_Win12 (List.mem_of_getElem? (i := 6) rfl)
theorem kw_487 : Cond.static ⟨"ViewRounds", "pack", "(IIII)I"⟩ ∈ z_W := z_Win12 (List.mem_of_getElem? (i := 7) rfl)
theorem kw_488 : Cond.code ⟨"ViewRounds", "pack", "(IIII)I"⟩ prog_1_method_31_code 7 (some .int) ∈ z_W := z_Win12 (List.mem_of_getElem? (i := 8) rfl)
theorem kw_489 : Cond.methodLink "ViewRounds" 225 ⟨"ViewRounds", "isValue", "(I)Z"⟩ ∈ z_W := z_Win12 (List.mem_of_getElem? (i := 9) rfl)
theorem kw_490 : Cond.static ⟨"ViewRounds", "isValue", "(I)Z"⟩ ∈ z_W := z_Win12 (List.mem_of_getElem? (i := 10) rfl)
theorem kw_491 : Cond.code ⟨"ViewRounds", "isValue", "(I)Z"⟩ prog_1_method_32_code 1 (some .boolean) ∈ z_W := z_Win12 (List.mem_of_getElem? (i := 11) rfl)
theorem kw_492 : Cond.methodLink "ViewRounds" 132 ⟨"ViewRounds$SignedRows", "append", "(III)V"⟩ ∈ z_W := z_Win12 (List.mem_of_getElem? (i := 12) rfl)
theorem kw_493 : Cond.instanceMethod ⟨"ViewRounds$SignedRows", "append", "(III)V"⟩ ∈ z_W := z_Win12 (List.mem_of_getElem? (i := 13) rfl)
theorem kw_494 : Cond.selects "ViewRounds$SignedRows" ⟨"ViewRounds$SignedRows", "append", "(III)V"⟩ ⟨"ViewRounds$SignedRows", "append", "(III)V"⟩ ∈ z_W := z_Win12 (List.mem_of_getElem? (i := 14) rfl)
theorem kw_495 : Cond.code ⟨"ViewRounds$SignedRows", "append", "(III)V"⟩ prog_8_method_2_code 4 none ∈ z_W := z_Win12 (List.mem_of_getElem? (i := 15) rfl)
theorem kw_496 : Cond.methodLink "ViewRoundsLaw" 48 ⟨"ViewRounds", "batch", "()I"⟩ ∈ z_W := z_Win12 (List.mem_of_getElem? (i := 16) rfl)
theorem kw_497 : Cond.instanceMethod ⟨"ViewRounds", "batch", "()I"⟩ ∈ z_W := z_Win12 (List.mem_of_getElem? (i := 17) rfl)
theorem kw_498 : Cond.selects "ViewRounds" ⟨"ViewRounds", "batch", "()I"⟩ ⟨"ViewRounds", "batch", "()I"⟩ ∈ z_W := z_Win12 (List.mem_of_getElem? (i := 18) rfl)
theorem kw_499 : Cond.code ⟨"ViewRounds", "batch", "()I"⟩ prog_1_method_9_code 2 (some .int) ∈ z_W := z_Win12 (List.mem_of_getElem? (i := 19) rfl)
theorem kw_500 : Cond.methodLink "ViewRounds" 136 ⟨"ViewRounds", "settle", "(LViewRounds$SignedRows;I)I"⟩ ∈ z_W := z_Win12 (List.mem_of_getElem? (i := 20) rfl)
theorem kw_501 : Cond.instanceMethod ⟨"ViewRounds", "settle", "(LViewRounds$SignedRows;I)I"⟩ ∈ z_W := z_Win12 (List.mem_of_getElem? (i := 21) rfl)
theorem kw_502 : Cond.code ⟨"ViewRounds", "settle", "(LViewRounds$SignedRows;I)I"⟩ prog_1_method_22_code 5 (some .int) ∈ z_W := z_Win12 (List.mem_of_getElem? (i := 22) rfl)
theorem kw_503 : Cond.methodLink "ViewRounds" 188 ⟨"ViewRounds", "copyTables", "()V"⟩ ∈ z_W := z_Win12 (List.mem_of_getElem? (i := 23) rfl)
theorem kw_504 : Cond.instanceMethod ⟨"ViewRounds", "copyTables", "()V"⟩ ∈ z_W := z_Win12 (List.mem_of_getElem? (i := 24) rfl)
theorem kw_505 : Cond.code ⟨"ViewRounds", "copyTables", "()V"⟩ prog_1_method_25_code 2 none ∈ z_W := z_Win12 (List.mem_of_getElem? (i := 25) rfl)
theorem kw_506 : Cond.methodLink "ViewRounds" 216 ⟨"ViewRounds$Rows", "copy", "(LViewRounds$Rows;)V"⟩ ∈ z_W := z_Win12 (List.mem_of_getElem? (i := 26) rfl)
theorem kw_507 : Cond.instanceMethod ⟨"ViewRounds$Rows", "copy", "(LViewRounds$Rows;)V"⟩ ∈ z_W := z_Win12 (List.mem_of_getElem? (i := 27) rfl)
theorem kw_508 : Cond.selects "ViewRounds$Rows" ⟨"ViewRounds$Rows", "copy", "(LViewRounds$Rows;)V"⟩ ⟨"ViewRounds$Rows", "copy", "(LViewRounds$Rows;)V"⟩ ∈ z_W := z_Win12 (List.mem_of_getElem? (i := 28) rfl)
theorem kw_509 : Cond.code ⟨"ViewRounds$Rows", "copy", "(LViewRounds$Rows;)V"⟩ prog_6_method_6_code 3 none ∈ z_W := z_Win12 (List.mem_of_getElem? (i := 29) rfl)
theorem kw_510 : Cond.methodLink "ViewRounds" 206 ⟨"ViewRounds$Rows", "add", "(II)I"⟩ ∈ z_W := z_Win12 (List.mem_of_getElem? (i := 30) rfl)
theorem kw_511 : Cond.methodLink "ViewRounds" 209 ⟨"ViewRounds$Rows", "dropZeros", "()Z"⟩ ∈ z_W := z_Win12 (List.mem_of_getElem? (i := 31) rfl)
theorem kw_512 : Cond.instanceMethod ⟨"ViewRounds$Rows", "dropZeros", "()Z"⟩ ∈ z_W := z_Win12 (List.mem_of_getElem? (i := 32) rfl)
theorem kw_513 : Cond.selects "ViewRounds$Rows" ⟨"ViewRounds$Rows", "dropZeros", "()Z"⟩ ⟨"ViewRounds$Rows", "dropZeros", "()Z"⟩ ∈ z_W := z_Win12 (List.mem_of_getElem? (i := 33) rfl)
theorem kw_514 : Cond.code ⟨"ViewRounds$Rows", "dropZeros", "()Z"⟩ prog_6_method_5_code 3 (some .boolean) ∈ z_W := z_Win12 (List.mem_of_getElem? (i := 34) rfl)
theorem kw_515 : Cond.methodLink "ViewRounds" 212 ⟨"ViewRounds", "noteDifferences", "(ILViewRounds$Rows;LViewRounds$Rows;)V"⟩ ∈ z_W := z_Win12 (List.mem_of_getElem? (i := 35) rfl)
theorem kw_516 : Cond.instanceMethod ⟨"ViewRounds", "noteDifferences", "(ILViewRounds$Rows;LViewRounds$Rows;)V"⟩ ∈ z_W := z_Win12 (List.mem_of_getElem? (i := 36) rfl)
theorem kw_517 : Cond.code ⟨"ViewRounds", "noteDifferences", "(ILViewRounds$Rows;LViewRounds$Rows;)V"⟩ prog_1_method_23_code 9 none ∈ z_W := z_Win12 (List.mem_of_getElem? (i := 37) rfl)
theorem kw_518 : Cond.methodLink "ViewRounds" 140 ⟨"ViewRounds", "keepForTakingBack", "()V"⟩ ∈ z_W := z_Win12 (List.mem_of_getElem? (i := 38) rfl)
theorem kw_519 : Cond.instanceMethod ⟨"ViewRounds", "keepForTakingBack", "()V"⟩ ∈ z_W := z_Win12 (List.mem_of_getElem? (i := 39) rfl)
theorem kw_520 : Cond.code ⟨"ViewRounds", "keepForTakingBack", "()V"⟩ prog_1_method_24_code 3 none ∈ z_W := z_Win13 (List.mem_of_getElem? (i := 0) rfl)
theorem kw_521 : Cond.methodLink "ViewRoundsLaw" 52 ⟨"ViewRounds", "drop", "()I"⟩ ∈ z_W := z_Win13 (List.mem_of_getElem? (i := 1) rfl)
theorem kw_522 : Cond.instanceMethod ⟨"ViewRounds", "drop", "()I"⟩ ∈ z_W := z_Win13 (List.mem_of_getElem? (i := 2) rfl)
theorem kw_523 : Cond.selects "ViewRounds" ⟨"ViewRounds", "drop", "()I"⟩ ⟨"ViewRounds", "drop", "()I"⟩ ∈ z_W := z_Win13 (List.mem_of_getElem? (i := 3) rfl)
theorem kw_524 : Cond.code ⟨"ViewRounds", "drop", "()I"⟩ prog_1_method_10_code 2 (some .int) ∈ z_W := z_Win13 (List.mem_of_getElem? (i := 4) rfl)
theorem kw_525 : Cond.methodLink "ViewRoundsLaw" 56 ⟨"ViewRounds", "difference", "(II)I"⟩ ∈ z_W := z_Win13 (List.mem_of_getElem? (i := 5) rfl)
theorem kw_526 : Cond.instanceMethod ⟨"ViewRounds", "difference", "(II)I"⟩ ∈ z_W := z_Win13 (List.mem_of_getElem? (i := 6) rfl)
theorem kw_527 : Cond.selects "ViewRounds" ⟨"ViewRounds", "difference", "(II)I"⟩ ⟨"ViewRounds", "difference", "(II)I"⟩ ∈ z_W := z_Win13 (List.mem_of_getElem? (i := 7) rfl)
theorem kw_528 : Cond.code ⟨"ViewRounds", "difference", "(II)I"⟩ prog_1_method_11_code 3 (some .int) ∈ z_W := z_Win13 (List.mem_of_getElem? (i := 8) rfl)
theorem kw_529 : Cond.methodLink "ViewRounds" 152 ⟨"ViewRounds", "valueAt", "(II)I"⟩ ∈ z_W := z_Win13 (List.mem_of_getElem? (i := 9) rfl)
theorem kw_530 : Cond.methodLink "ViewRoundsLaw" 60 ⟨"ViewRounds", "undo", "()I"⟩ ∈ z_W := z_Win13 (List.mem_of_getElem? (i := 10) rfl)
theorem kw_531 : Cond.instanceMethod ⟨"ViewRounds", "undo", "()I"⟩ ∈ z_W := z_Win13 (List.mem_of_getElem? (i := 11) rfl)
theorem kw_532 : Cond.selects "ViewRounds" ⟨"ViewRounds", "undo", "()I"⟩ ⟨"ViewRounds", "undo", "()I"⟩ ∈ z_W := z_Win13 (List.mem_of_getElem? (i := 12) rfl)
theorem kw_533 : Cond.code ⟨"ViewRounds", "undo", "()I"⟩ prog_1_method_12_code 2 (some .int) ∈ z_W := z_Win13 (List.mem_of_getElem? (i := 13) rfl)
theorem kw_534 : Cond.methodLink "ViewRoundsLaw" 64 ⟨"ViewRounds", "has", "(IIII)I"⟩ ∈ z_W := z_Win13 (List.mem_of_getElem? (i := 14) rfl)
theorem kw_535 : Cond.instanceMethod ⟨"ViewRounds", "has", "(IIII)I"⟩ ∈ z_W := z_Win13 (List.mem_of_getElem? (i := 15) rfl)
theorem kw_536 : Cond.selects "ViewRounds" ⟨"ViewRounds", "has", "(IIII)I"⟩ ⟨"ViewRounds", "has", "(IIII)I"⟩ ∈ z_W := z_Win13 (List.mem_of_getElem? (i := 16) rfl)
theorem kw_537 : Cond.code ⟨"ViewRounds", "has", "(IIII)I"⟩ prog_1_method_13_code 6 (some .int) ∈ z_W := z_Win13 (List.mem_of_getElem? (i := 17) rfl)
theorem kw_538 : Cond.methodLink "ViewRounds" 159 ⟨"ViewRounds$Rows", "countOf", "(I)I"⟩ ∈ z_W := z_Win13 (List.mem_of_getElem? (i := 18) rfl)
theorem kw_539 : Cond.methodLink "ViewRoundsLaw" 69 ⟨"ViewRounds", "row", "(III)I"⟩ ∈ z_W := z_Win13 (List.mem_of_getElem? (i := 19) rfl)
theorem kw_540 : Cond.instanceMethod ⟨"ViewRounds", "row", "(III)I"⟩ ∈ z_W := z_Win13 (List.mem_of_getElem? (i := 20) rfl)
theorem kw_541 : Cond.selects "ViewRounds" ⟨"ViewRounds", "row", "(III)I"⟩ ⟨"ViewRounds", "row", "(III)I"⟩ ∈ z_W := z_Win13 (List.mem_of_getElem? (i := 21) rfl)
theorem kw_542 : Cond.code ⟨"ViewRounds", "row", "(III)I"⟩ prog_1_method_14_code 5 (some .int) ∈ z_W := z_Win13 (List.mem_of_getElem? (i := 22) rfl)
theorem kw_543 : Cond.methodLink "ViewRoundsLaw" 74 ⟨"ViewRounds", "derivations", "(IIII)I"⟩ ∈ z_W := z_Win13 (List.mem_of_getElem? (i := 23) rfl)
theorem kw_544 : Cond.instanceMethod ⟨"ViewRounds", "derivations", "(IIII)I"⟩ ∈ z_W := z_Win13 (List.mem_of_getElem? (i := 24) rfl)
theorem kw_545 : Cond.selects "ViewRounds" ⟨"ViewRounds", "derivations", "(IIII)I"⟩ ⟨"ViewRounds", "derivations", "(IIII)I"⟩ ∈ z_W := z_Win13 (List.mem_of_getElem? (i := 25) rfl)
theorem kw_546 : Cond.code ⟨"ViewRounds", "derivations", "(IIII)I"⟩ prog_1_method_15_code 6 (some .int) ∈ z_W := z_Win13 (List.mem_of_getElem? (i := 26) rfl)
theorem kw_547 : Cond.methodLink "ViewRounds" 166 ⟨"ViewRounds$Program", "isCounted", "(I)Z"⟩ ∈ z_W := z_Win13 (List.mem_of_getElem? (i := 27) rfl)
theorem kw_548 : Cond.methodLink "ViewRounds" 169 ⟨"ViewRounds$Engine", "countDerivations", "(LViewRounds$Program;[LViewRounds$Rows;II)I"⟩ ∈ z_W := z_Win13 (List.mem_of_getElem? (i := 28) rfl)
theorem kw_549 : Cond.instanceMethod ⟨"ViewRounds$Engine", "countDerivations", "(LViewRounds$Program;[LViewRounds$Rows;II)I"⟩ ∈ z_W := z_Win13 (List.mem_of_getElem? (i := 29) rfl)
theorem kw_550 : Cond.selects "ViewRounds$Engine" ⟨"ViewRounds$Engine", "countDerivations", "(LViewRounds$Program;[LViewRounds$Rows;II)I"⟩ ⟨"ViewRounds$Engine", "countDerivations", "(LViewRounds$Program;[LViewRounds$Rows;II)I"⟩ ∈ z_W := z_Win13 (List.mem_of_getElem? (i := 30) rfl)
theorem kw_551 : Cond.code ⟨"ViewRounds$Engine", "countDerivations", "(LViewRounds$Program;[LViewRounds$Rows;II)I"⟩ prog_3_method_3_code 6 (some .int) ∈ z_W := z_Win13 (List.mem_of_getElem? (i := 31) rfl)
theorem kw_552 : Cond.methodLink "ViewRounds$Engine" 79 ⟨"ViewRounds$Engine", "solveFor", "(III)V"⟩ ∈ z_W := z_Win13 (List.mem_of_getElem? (i := 32) rfl)
theorem kw_553 : Cond.instanceMethod ⟨"ViewRounds$Engine", "solveFor", "(III)V"⟩ ∈ z_W := z_Win13 (List.mem_of_getElem? (i := 33) rfl)
theorem kw_554 : Cond.code ⟨"ViewRounds$Engine", "solveFor", "(III)V"⟩ prog_3_method_6_code 4 none ∈ z_W := z_Win13 (List.mem_of_getElem? (i := 34) rfl)
theorem kw_555 : Cond.methodLink "ViewRoundsLaw" 78 ⟨"ViewRounds", "why", "(IIIII)I"⟩ ∈ z_W := z_Win13 (List.mem_of_getElem? (i := 35) rfl)
theorem kw_556 : Cond.instanceMethod ⟨"ViewRounds", "why", "(IIIII)I"⟩ ∈ z_W := z_Win13 (List.mem_of_getElem? (i := 36) rfl)
theorem kw_557 : Cond.selects "ViewRounds" ⟨"ViewRounds", "why", "(IIIII)I"⟩ ⟨"ViewRounds", "why", "(IIIII)I"⟩ ∈ z_W := z_Win13 (List.mem_of_getElem? (i := 37) rfl)
theorem kw_558 : Cond.code ⟨"ViewRounds", "why", "(IIIII)I"⟩ prog_1_method_16_code 9 (some .int) ∈ z_W := z_Win13 (List.mem_of_getElem? (i := 38) rfl)
theorem kw_559 : Cond.methodLink "ViewRounds" 173 ⟨"ViewRounds$Engine", "findLeast", "(LViewRounds$Program;[LViewRounds$Rows;II)I"⟩ ∈ z_W := z_Win13 (List.mem_of_getElem? (i := 39) rfl)
theorem kw_560 : Cond.instanceMethod ⟨"ViewRounds$Engine", "findLeast", "(LViewRounds$Program;[LViewRounds$Rows;II)I"⟩ ∈ z_W := z_Win14 (List.mem_of_getElem? (i := 0) rfl)
theorem kw_561 : Cond.selects "ViewRounds$Engine" ⟨"ViewRounds$Engine", "findLeast", "(LViewRounds$Program;[LViewRounds$Rows;II)I"⟩ ⟨"ViewRounds$Engine", "findLeast", "(LViewRounds$Program;[LViewRounds$Rows;II)I"⟩ ∈ z_W := z_Win14 (List.mem_of_getElem? (i := 1) rfl)
theorem kw_562 : Cond.code ⟨"ViewRounds$Engine", "findLeast", "(LViewRounds$Program;[LViewRounds$Rows;II)I"⟩ prog_3_method_4_code 6 (some .int) ∈ z_W := z_Win14 (List.mem_of_getElem? (i := 2) rfl)
theorem kw_563 : Cond.methodLink "ViewRoundsLaw" 82 ⟨"ViewRounds", "anew", "()Z"⟩ ∈ z_W := z_Win14 (List.mem_of_getElem? (i := 3) rfl)
theorem kw_564 : Cond.instanceMethod ⟨"ViewRounds", "anew", "()Z"⟩ ∈ z_W := z_Win14 (List.mem_of_getElem? (i := 4) rfl)
theorem kw_565 : Cond.selects "ViewRounds" ⟨"ViewRounds", "anew", "()Z"⟩ ⟨"ViewRounds", "anew", "()Z"⟩ ∈ z_W := z_Win14 (List.mem_of_getElem? (i := 5) rfl)
theorem kw_566 : Cond.code ⟨"ViewRounds", "anew", "()Z"⟩ prog_1_method_17_code 1 (some .boolean) ∈ z_W := z_Win14 (List.mem_of_getElem? (i := 6) rfl)
theorem kw_567 : Cond.methodLink "ViewRounds" 191 ⟨"ViewRounds", "viewsAreTheSame", "()Z"⟩ ∈ z_W := z_Win14 (List.mem_of_getElem? (i := 7) rfl)
theorem kw_568 : Cond.instanceMethod ⟨"ViewRounds", "viewsAreTheSame", "()Z"⟩ ∈ z_W := z_Win14 (List.mem_of_getElem? (i := 8) rfl)
theorem kw_569 : Cond.code ⟨"ViewRounds", "viewsAreTheSame", "()Z"⟩ prog_1_method_27_code 2 (some .boolean) ∈ z_W := z_Win14 (List.mem_of_getElem? (i := 9) rfl)
theorem kw_570 : Cond.methodLink "ViewRounds" 220 ⟨"ViewRounds$Rows", "isSame", "(LViewRounds$Rows;)Z"⟩ ∈ z_W := z_Win14 (List.mem_of_getElem? (i := 10) rfl)
theorem kw_571 : Cond.instanceMethod ⟨"ViewRounds$Rows", "isSame", "(LViewRounds$Rows;)Z"⟩ ∈ z_W := z_Win14 (List.mem_of_getElem? (i := 11) rfl)
theorem kw_572 : Cond.selects "ViewRounds$Rows" ⟨"ViewRounds$Rows", "isSame", "(LViewRounds$Rows;)Z"⟩ ⟨"ViewRounds$Rows", "isSame", "(LViewRounds$Rows;)Z"⟩ ∈ z_W := z_Win14 (List.mem_of_getElem? (i := 12) rfl)
theorem kw_573 : Cond.code ⟨"ViewRounds$Rows", "isSame", "(LViewRounds$Rows;)Z"⟩ prog_6_method_7_code 3 (some .boolean) ∈ z_W := z_Win14 (List.mem_of_getElem? (i := 13) rfl)
theorem kw_574 : Cond.methodLink "ViewRoundsLaw" 87 ⟨"ViewRounds", "told", "(I)I"⟩ ∈ z_W := z_Win14 (List.mem_of_getElem? (i := 14) rfl)
theorem kw_575 : Cond.instanceMethod ⟨"ViewRounds", "told", "(I)I"⟩ ∈ z_W := z_Win14 (List.mem_of_getElem? (i := 15) rfl)
theorem kw_576 : Cond.selects "ViewRounds" ⟨"ViewRounds", "told", "(I)I"⟩ ⟨"ViewRounds", "told", "(I)I"⟩ ∈ z_W := z_Win14 (List.mem_of_getElem? (i := 16) rfl)
theorem kw_577 : Cond.code ⟨"ViewRounds", "told", "(I)I"⟩ prog_1_method_18_code 2 (some .int) ∈ z_W := z_Win14 (List.mem_of_getElem? (i := 17) rfl)
theorem kw_578 : Cond.classLink "ViewRoundsLaw" 10 "ViewRoundsModel" ∈ z_W := z_Win14 (List.mem_of_getElem? (i := 18) rfl)
theorem kw_579 : Cond.instantiable "ViewRoundsModel" 51 ∈ z_W := z_Win14 (List.mem_of_getElem? (i := 19) rfl)
theorem kw_580 : Cond.methodLink "ViewRoundsLaw" 12 ⟨"ViewRoundsModel", "<init>", "()V"⟩ ∈ z_W := z_Win14 (List.mem_of_getElem? (i := 20) rfl)
theorem kw_581 : Cond.instanceMethod ⟨"ViewRoundsModel", "<init>", "()V"⟩ ∈ z_W := z_Win14 (List.mem_of_getElem? (i := 21) rfl)
theorem kw_582 : Cond.code ⟨"ViewRoundsModel", "<init>", "()V"⟩ prog_10_method_1_code 1 none ∈ z_W := z_Win14 (List.mem_of_getElem? (i := 22) rfl)
theorem kw_583 : Cond.methodLink "ViewRoundsModel" 1 ⟨"java/lang/Object", "<init>", "()V"⟩ ∈ z_W := z_Win14 (List.mem_of_getElem? (i := 23) rfl)
theorem kw_584 : Cond.fieldLink "ViewRoundsModel" 7 "ViewRoundsModel" "text" "[B" ∈ z_W := z_Win14 (List.mem_of_getElem? (i := 24) rfl)
theorem kw_585 : Cond.fieldLink "ViewRoundsModel" 274 "ViewRoundsModel" "size" "I" ∈ z_W := z_Win14 (List.mem_of_getElem? (i := 25) rfl)
theorem kw_586 : Cond.fieldLink "ViewRoundsModel" 13 "ViewRoundsModel" "signs" "[I" ∈ z_W := z_Win14 (List.mem_of_getElem? (i := 26) rfl)
theorem kw_587 : Cond.fieldLink "ViewRoundsModel" 17 "ViewRoundsModel" "places" "[I" ∈ z_W := z_Win14 (List.mem_of_getElem? (i := 27) rfl)
theorem kw_588 : Cond.fieldLink "ViewRoundsModel" 280 "ViewRoundsModel" "many" "I" ∈ z_W := z_Win14 (List.mem_of_getElem? (i := 28) rfl)
theorem kw_589 : Cond.fieldLink "ViewRoundsModel" 124 "ViewRoundsModel" "at" "I" ∈ z_W := z_Win14 (List.mem_of_getElem? (i := 29) rfl)
theorem kw_590 : Cond.fieldLink "ViewRoundsModel" 121 "ViewRoundsModel" "fault" "I" ∈ z_W := z_Win14 (List.mem_of_getElem? (i := 30) rfl)
theorem kw_591 : Cond.fieldLink "ViewRoundsModel" 20 "ViewRoundsModel" "place" "I" ∈ z_W := z_Win14 (List.mem_of_getElem? (i := 31) rfl)
theorem kw_592 : Cond.fieldLink "ViewRoundsModel" 164 "ViewRoundsModel" "rules" "I" ∈ z_W := z_Win14 (List.mem_of_getElem? (i := 32) rfl)
theorem kw_593 : Cond.fieldLink "ViewRoundsModel" 24 "ViewRoundsModel" "head" "[I" ∈ z_W := z_Win14 (List.mem_of_getElem? (i := 33) rfl)
theorem kw_594 : Cond.fieldLink "ViewRoundsModel" 27 "ViewRoundsModel" "headTerms" "[I" ∈ z_W := z_Win14 (List.mem_of_getElem? (i := 34) rfl)
theorem kw_595 : Cond.fieldLink "ViewRoundsModel" 30 "ViewRoundsModel" "literals" "[I" ∈ z_W := z_Win14 (List.mem_of_getElem? (i := 35) rfl)
theorem kw_596 : Cond.fieldLink "ViewRoundsModel" 33 "ViewRoundsModel" "kinds" "[I" ∈ z_W := z_Win14 (List.mem_of_getElem? (i := 36) rfl)
theorem kw_597 : Cond.fieldLink "ViewRoundsModel" 36 "ViewRoundsModel" "relations" "[I" ∈ z_W := z_Win14 (List.mem_of_getElem? (i := 37) rfl)
theorem kw_598 : Cond.fieldLink "ViewRoundsModel" 39 "ViewRoundsModel" "terms" "[I" ∈ z_W := z_Win14 (List.mem_of_getElem? (i := 38) rfl)
theorem kw_599 : Cond.fieldLink "ViewRoundsModel" 42 "ViewRoundsModel" "counting" "[Z" ∈ z_W := z_Win14 (List.mem_of_getElem? (i := 39) rfl)
theorem kw_600 : Cond.fieldLink "ViewRoundsModel" 46 "ViewRoundsModel" "letters" "[I" ∈ z_W := z_Win15 (List.mem_of_getElem? (i := 0) rfl)
theorem kw_601 : Cond.fieldLink "ViewRoundsModel" 139 "ViewRoundsModel" "known" "I" ∈ z_W := z_Win15 (List.mem_of_getElem? (i := 1) rfl)
theorem kw_602 : Cond.fieldLink "ViewRoundsModel" 49 "ViewRoundsModel" "names" "[I" ∈ z_W := z_Win15 (List.mem_of_getElem? (i := 2) rfl)
theorem kw_603 : Cond.fieldLink "ViewRoundsModel" 52 "ViewRoundsModel" "arity" "[I" ∈ z_W := z_Win15 (List.mem_of_getElem? (i := 3) rfl)
theorem kw_604 : Cond.fieldLink "ViewRoundsModel" 55 "ViewRoundsModel" "view" "[Z" ∈ z_W := z_Win15 (List.mem_of_getElem? (i := 4) rfl)
theorem kw_605 : Cond.fieldLink "ViewRoundsModel" 58 "ViewRoundsModel" "layer" "[I" ∈ z_W := z_Win15 (List.mem_of_getElem? (i := 5) rfl)
theorem kw_606 : Cond.fieldLink "ViewRoundsModel" 61 "ViewRoundsModel" "reach" "[Z" ∈ z_W := z_Win15 (List.mem_of_getElem? (i := 6) rfl)
theorem kw_607 : Cond.fieldLink "ViewRoundsModel" 64 "ViewRoundsModel" "onRing" "[Z" ∈ z_W := z_Win15 (List.mem_of_getElem? (i := 7) rfl)
theorem kw_608 : Cond.fieldLink "ViewRoundsModel" 67 "ViewRoundsModel" "values" "[I" ∈ z_W := z_Win15 (List.mem_of_getElem? (i := 8) rfl)
theorem kw_609 : Cond.fieldLink "ViewRoundsModel" 70 "ViewRoundsModel" "counts" "[I" ∈ z_W := z_Win15 (List.mem_of_getElem? (i := 9) rfl)
theorem kw_610 : Cond.fieldLink "ViewRoundsModel" 73 "ViewRoundsModel" "rows" "[I" ∈ z_W := z_Win15 (List.mem_of_getElem? (i := 10) rfl)
theorem kw_611 : Cond.fieldLink "ViewRoundsModel" 76 "ViewRoundsModel" "oldValues" "[I" ∈ z_W := z_Win15 (List.mem_of_getElem? (i := 11) rfl)
theorem kw_612 : Cond.fieldLink "ViewRoundsModel" 79 "ViewRoundsModel" "oldCounts" "[I" ∈ z_W := z_Win15 (List.mem_of_getElem? (i := 12) rfl)
theorem kw_613 : Cond.fieldLink "ViewRoundsModel" 82 "ViewRoundsModel" "oldRows" "[I" ∈ z_W := z_Win15 (List.mem_of_getElem? (i := 13) rfl)
theorem kw_614 : Cond.fieldLink "ViewRoundsModel" 85 "ViewRoundsModel" "batch" "[I" ∈ z_W := z_Win15 (List.mem_of_getElem? (i := 14) rfl)
theorem kw_615 : Cond.fieldLink "ViewRoundsModel" 286 "ViewRoundsModel" "batched" "I" ∈ z_W := z_Win15 (List.mem_of_getElem? (i := 15) rfl)
theorem kw_616 : Cond.fieldLink "ViewRoundsModel" 88 "ViewRoundsModel" "kept" "[I" ∈ z_W := z_Win15 (List.mem_of_getElem? (i := 16) rfl)
theorem kw_617 : Cond.fieldLink "ViewRoundsModel" 91 "ViewRoundsModel" "keptMany" "[I" ∈ z_W := z_Win15 (List.mem_of_getElem? (i := 17) rfl)
theorem kw_618 : Cond.fieldLink "ViewRoundsModel" 277 "ViewRoundsModel" "history" "I" ∈ z_W := z_Win15 (List.mem_of_getElem? (i := 18) rfl)
theorem kw_619 : Cond.fieldLink "ViewRoundsModel" 94 "ViewRoundsModel" "differences" "[I" ∈ z_W := z_Win15 (List.mem_of_getElem? (i := 19) rfl)
theorem kw_620 : Cond.fieldLink "ViewRoundsModel" 264 "ViewRoundsModel" "different" "I" ∈ z_W := z_Win15 (List.mem_of_getElem? (i := 20) rfl)
theorem kw_621 : Cond.fieldLink "ViewRoundsModel" 97 "ViewRoundsModel" "bound" "[I" ∈ z_W := z_Win15 (List.mem_of_getElem? (i := 21) rfl)
theorem kw_622 : Cond.fieldLink "ViewRoundsModel" 100 "ViewRoundsModel" "cursor" "[I" ∈ z_W := z_Win15 (List.mem_of_getElem? (i := 22) rfl)
theorem kw_623 : Cond.fieldLink "ViewRoundsModel" 103 "ViewRoundsModel" "positives" "[I" ∈ z_W := z_Win15 (List.mem_of_getElem? (i := 23) rfl)
theorem kw_624 : Cond.fieldLink "ViewRoundsModel" 202 "ViewRoundsModel" "depth" "I" ∈ z_W := z_Win15 (List.mem_of_getElem? (i := 24) rfl)
theorem kw_625 : Cond.fieldLink "ViewRoundsModel" 199 "ViewRoundsModel" "goals" "I" ∈ z_W := z_Win15 (List.mem_of_getElem? (i := 25) rfl)
theorem kw_626 : Cond.fieldLink "ViewRoundsModel" 196 "ViewRoundsModel" "current" "I" ∈ z_W := z_Win15 (List.mem_of_getElem? (i := 26) rfl)
theorem kw_627 : Cond.fieldLink "ViewRoundsModel" 106 "ViewRoundsModel" "fresh" "[I" ∈ z_W := z_Win15 (List.mem_of_getElem? (i := 27) rfl)
theorem kw_628 : Cond.fieldLink "ViewRoundsModel" 109 "ViewRoundsModel" "freshCount" "[I" ∈ z_W := z_Win15 (List.mem_of_getElem? (i := 28) rfl)
theorem kw_629 : Cond.fieldLink "ViewRoundsModel" 223 "ViewRoundsModel" "freshMany" "I" ∈ z_W := z_Win15 (List.mem_of_getElem? (i := 29) rfl)
theorem kw_630 : Cond.fieldLink "ViewRoundsModel" 112 "ViewRoundsModel" "sums" "[I" ∈ z_W := z_Win15 (List.mem_of_getElem? (i := 30) rfl)
theorem kw_631 : Cond.fieldLink "ViewRoundsModel" 245 "ViewRoundsModel" "summed" "I" ∈ z_W := z_Win15 (List.mem_of_getElem? (i := 31) rfl)
theorem kw_632 : Cond.fieldLink "ViewRoundsModel" 115 "ViewRoundsModel" "ringNames" "[I" ∈ z_W := z_Win15 (List.mem_of_getElem? (i := 32) rfl)
theorem kw_633 : Cond.fieldLink "ViewRoundsModel" 304 "ViewRoundsModel" "ringSize" "I" ∈ z_W := z_Win15 (List.mem_of_getElem? (i := 33) rfl)
theorem kw_634 : Cond.fieldLink "ViewRoundsModel" 118 "ViewRoundsModel" "best" "[I" ∈ z_W := z_Win15 (List.mem_of_getElem? (i := 34) rfl)
theorem kw_635 : Cond.laysFinal "ViewRoundsModel" "ViewRoundsModel" "text" "[B" ∈ z_W := z_Win15 (List.mem_of_getElem? (i := 35) rfl)
theorem kw_636 : Cond.lays "ViewRoundsModel" "ViewRoundsModel" "size" "I" ∈ z_W := z_Win15 (List.mem_of_getElem? (i := 36) rfl)
theorem kw_637 : Cond.laysFinal "ViewRoundsModel" "ViewRoundsModel" "signs" "[I" ∈ z_W := z_Win15 (List.mem_of_getElem? (i := 37) rfl)
theorem kw_638 : Cond.laysFinal "ViewRoundsModel" "ViewRoundsModel" "places" "[I" ∈ z_W := z_Win15 (List.mem_of_getElem? (i := 38) rfl)
theorem kw_639 : Cond.lays "ViewRoundsModel" "ViewRoundsModel" "many" "I" ∈ z_W := z_Win15 (List.mem_of_getElem? (i := 39) rfl)
theorem kw_640 : Cond.lays "ViewRoundsModel" "ViewRoundsModel" "at" "I" ∈ z_W := z_Win16 (List.mem_of_getElem? (i := 0) rfl)
theorem kw_641 : Cond.lays "ViewRoundsModel" "ViewRoundsModel" "fault" "I" ∈ z_W := z_Win16 (List.mem_of_getElem? (i := 1) rfl)
theorem kw_642 : Cond.lays "ViewRoundsModel" "ViewRoundsModel" "place" "I" ∈ z_W := z_Win16 (List.mem_of_getElem? (i := 2) rfl)
theorem kw_643 : Cond.lays "ViewRoundsModel" "ViewRoundsModel" "rules" "I" ∈ z_W := z_Win16 (List.mem_of_getElem? (i := 3) rfl)
theorem kw_644 : Cond.laysFinal "ViewRoundsModel" "ViewRoundsModel" "head" "[I" ∈ z_W := z_Win16 (List.mem_of_getElem? (i := 4) rfl)
theorem kw_645 : Cond.laysFinal "ViewRoundsModel" "ViewRoundsModel" "headTerms" "[I" ∈ z_W := z_Win16 (List.mem_of_getElem? (i := 5) rfl)
theorem kw_646 : Cond.laysFinal "ViewRoundsModel" "ViewRoundsModel" "literals" "[I" ∈ z_W := z_Win16 (List.mem_of_getElem? (i := 6) rfl)
theorem kw_647 : Cond.laysFinal "ViewRoundsModel" "ViewRoundsModel" "kinds" "[I" ∈ z_W := z_Win16 (List.mem_of_getElem? (i := 7) rfl)
theorem kw_648 : Cond.laysFinal "ViewRoundsModel" "ViewRoundsModel" "relations" "[I" ∈ z_W := z_Win16 (List.mem_of_getElem? (i := 8) rfl)
theorem kw_649 : Cond.laysFinal "ViewRoundsModel" "ViewRoundsModel" "terms" "[I" ∈ z_W := z_Win16 (List.mem_of_getElem? (i := 9) rfl)
theorem kw_650 : Cond.laysFinal "ViewRoundsModel" "ViewRoundsModel" "counting" "[Z" ∈ z_W := z_Win16 (List.mem_of_getElem? (i := 10) rfl)
theorem kw_651 : Cond.laysFinal "ViewRoundsModel" "ViewRoundsModel" "letters" "[I" ∈ z_W := z_Win16 (List.mem_of_getElem? (i := 11) rfl)
theorem kw_652 : Cond.lays "ViewRoundsModel" "ViewRoundsModel" "known" "I" ∈ z_W := z_Win16 (List.mem_of_getElem? (i := 12) rfl)
theorem kw_653 : Cond.laysFinal "ViewRoundsModel" "ViewRoundsModel" "names" "[I" ∈ z_W := z_Win16 (List.mem_of_getElem? (i := 13) rfl)
theorem kw_654 : Cond.laysFinal "ViewRoundsModel" "ViewRoundsModel" "arity" "[I" ∈ z_W := z_Win16 (List.mem_of_getElem? (i := 14) rfl)
theorem kw_655 : Cond.laysFinal "ViewRoundsModel" "ViewRoundsModel" "view" "[Z" ∈ z_W := z_Win16 (List.mem_of_getElem? (i := 15) rfl)
theorem kw_656 : Cond.laysFinal "ViewRoundsModel" "ViewRoundsModel" "layer" "[I" ∈ z_W := z_Win16 (List.mem_of_getElem? (i := 16) rfl)
theorem kw_657 : Cond.laysFinal "ViewRoundsModel" "ViewRoundsModel" "reach" "[Z" ∈ z_W := z_Win16 (List.mem_of_getElem? (i := 17) rfl)
theorem kw_658 : Cond.laysFinal "ViewRoundsModel" "ViewRoundsModel" "onRing" "[Z" ∈ z_W := z_Win16 (List.mem_of_getElem? (i := 18) rfl)
theorem kw_659 : Cond.laysFinal "ViewRoundsModel" "ViewRoundsModel" "values" "[I" ∈ z_W := z_Win16 (List.mem_of_getElem? (i := 19) rfl)
theorem kw_660 : Cond.laysFinal "ViewRoundsModel" "ViewRoundsModel" "counts" "[I" ∈ z_W := z_Win16 (List.mem_of_getElem? (i := 20) rfl)
theorem kw_661 : Cond.laysFinal "ViewRoundsModel" "ViewRoundsModel" "rows" "[I" ∈ z_W := z_Win16 (List.mem_of_getElem? (i := 21) rfl)
theorem kw_662 : Cond.laysFinal "ViewRoundsModel" "ViewRoundsModel" "oldValues" "[I" ∈ z_W := z_Win16 (List.mem_of_getElem? (i := 22) rfl)
theorem kw_663 : Cond.laysFinal "ViewRoundsModel" "ViewRoundsModel" "oldCounts" "[I" ∈ z_W := z_Win16 (List.mem_of_getElem? (i := 23) rfl)
theorem kw_664 : Cond.laysFinal "ViewRoundsModel" "ViewRoundsModel" "oldRows" "[I" ∈ z_W := z_Win16 (List.mem_of_getElem? (i := 24) rfl)
theorem kw_665 : Cond.laysFinal "ViewRoundsModel" "ViewRoundsModel" "batch" "[I" ∈ z_W := z_Win16 (List.mem_of_getElem? (i := 25) rfl)
theorem kw_666 : Cond.lays "ViewRoundsModel" "ViewRoundsModel" "batched" "I" ∈ z_W := z_Win16 (List.mem_of_getElem? (i := 26) rfl)
theorem kw_667 : Cond.laysFinal "ViewRoundsModel" "ViewRoundsModel" "kept" "[I" ∈ z_W := z_Win16 (List.mem_of_getElem? (i := 27) rfl)
theorem kw_668 : Cond.laysFinal "ViewRoundsModel" "ViewRoundsModel" "keptMany" "[I" ∈ z_W := z_Win16 (List.mem_of_getElem? (i := 28) rfl)
theorem kw_669 : Cond.lays "ViewRoundsModel" "ViewRoundsModel" "history" "I" ∈ z_W := z_Win16 (List.mem_of_getElem? (i := 29) rfl)
theorem kw_670 : Cond.laysFinal "ViewRoundsModel" "ViewRoundsModel" "differences" "[I" ∈ z_W := z_Win16 (List.mem_of_getElem? (i := 30) rfl)
theorem kw_671 : Cond.lays "ViewRoundsModel" "ViewRoundsModel" "different" "I" ∈ z_W := z_Win16 (List.mem_of_getElem? (i := 31) rfl)
theorem kw_672 : Cond.laysFinal "ViewRoundsModel" "ViewRoundsModel" "bound" "[I" ∈ z_W := z_Win16 (List.mem_of_getElem? (i := 32) rfl)
theorem kw_673 : Cond.laysFinal "ViewRoundsModel" "ViewRoundsModel" "cursor" "[I" ∈ z_W := z_Win16 (List.mem_of_getElem? (i := 33) rfl)
theorem kw_674 : Cond.laysFinal "ViewRoundsModel" "ViewRoundsModel" "positives" "[I" ∈ z_W := z_Win16 (List.mem_of_getElem? (i := 34) rfl)
theorem kw_675 : Cond.lays "ViewRoundsModel" "ViewRoundsModel" "depth" "I" ∈ z_W := z_Win16 (List.mem_of_getElem? (i := 35) rfl)
theorem kw_676 : Cond.lays "ViewRoundsModel" "ViewRoundsModel" "goals" "I" ∈ z_W := z_Win16 (List.mem_of_getElem? (i := 36) rfl)
theorem kw_677 : Cond.lays "ViewRoundsModel" "ViewRoundsModel" "current" "I" ∈ z_W := z_Win16 (List.mem_of_getElem? (i := 37) rfl)
theorem kw_678 : Cond.laysFinal "ViewRoundsModel" "ViewRoundsModel" "fresh" "[I" ∈ z_W := z_Win16 (List.mem_of_getElem? (i := 38) rfl)
theorem kw_679 : Cond.laysFinal "ViewRoundsModel" "ViewRoundsModel" "freshCount" "[I" ∈ z_W := z_Win16 (List.mem_of_getElem? (i := 39) rfl)
theorem kw_680 : Cond.lays "ViewRoundsModel" "ViewRoundsModel" "freshMany" "I" ∈ z_W := z_Win17 (List.mem_of_getElem? (i := 0) rfl)
theorem kw_681 : Cond.laysFinal "ViewRoundsModel" "ViewRoundsModel" "sums" "[I" ∈ z_W := z_Win17 (List.mem_of_getElem? (i := 1) rfl)
theorem kw_682 : Cond.lays "ViewRoundsModel" "ViewRoundsModel" "summed" "I" ∈ z_W := z_Win17 (List.mem_of_getElem? (i := 2) rfl)
theorem kw_683 : Cond.laysFinal "ViewRoundsModel" "ViewRoundsModel" "ringNames" "[I" ∈ z_W := z_Win17 (List.mem_of_getElem? (i := 3) rfl)
theorem kw_684 : Cond.lays "ViewRoundsModel" "ViewRoundsModel" "ringSize" "I" ∈ z_W := z_Win17 (List.mem_of_getElem? (i := 4) rfl)
theorem kw_685 : Cond.laysFinal "ViewRoundsModel" "ViewRoundsModel" "best" "[I" ∈ z_W := z_Win17 (List.mem_of_getElem? (i := 5) rfl)
theorem kw_686 : Cond.arrayClass .boolean ∈ z_W := z_Win17 (List.mem_of_getElem? (i := 6) rfl)
theorem kw_687 : Cond.methodLink "ViewRoundsLaw" 19 ⟨"ViewRoundsModel", "feed", "(JI)I"⟩ ∈ z_W := z_Win17 (List.mem_of_getElem? (i := 7) rfl)
theorem kw_688 : Cond.instanceMethod ⟨"ViewRoundsModel", "feed", "(JI)I"⟩ ∈ z_W := z_Win17 (List.mem_of_getElem? (i := 8) rfl)
theorem kw_689 : Cond.selects "ViewRoundsModel" ⟨"ViewRoundsModel", "feed", "(JI)I"⟩ ⟨"ViewRoundsModel", "feed", "(JI)I"⟩ ∈ z_W := z_Win17 (List.mem_of_getElem? (i := 9) rfl)
theorem kw_690 : Cond.code ⟨"ViewRoundsModel", "feed", "(JI)I"⟩ prog_10_method_44_code 5 (some .int) ∈ z_W := z_Win17 (List.mem_of_getElem? (i := 10) rfl)
theorem kw_691 : Cond.methodLink "ViewRoundsModel" 271 ⟨"ViewRoundsModel", "isIn", "(III)Z"⟩ ∈ z_W := z_Win17 (List.mem_of_getElem? (i := 11) rfl)
theorem kw_692 : Cond.static ⟨"ViewRoundsModel", "isIn", "(III)Z"⟩ ∈ z_W := z_Win17 (List.mem_of_getElem? (i := 12) rfl)
theorem kw_693 : Cond.code ⟨"ViewRoundsModel", "isIn", "(III)Z"⟩ prog_10_method_2_code 3 (some .boolean) ∈ z_W := z_Win17 (List.mem_of_getElem? (i := 13) rfl)
theorem kw_694 : Cond.methodLink "ViewRoundsLaw" 24 ⟨"ViewRoundsModel", "parse", "()I"⟩ ∈ z_W := z_Win17 (List.mem_of_getElem? (i := 14) rfl)
theorem kw_695 : Cond.instanceMethod ⟨"ViewRoundsModel", "parse", "()I"⟩ ∈ z_W := z_Win17 (List.mem_of_getElem? (i := 15) rfl)
theorem kw_696 : Cond.selects "ViewRoundsModel" ⟨"ViewRoundsModel", "parse", "()I"⟩ ⟨"ViewRoundsModel", "parse", "()I"⟩ ∈ z_W := z_Win17 (List.mem_of_getElem? (i := 16) rfl)
theorem kw_697 : Cond.code ⟨"ViewRoundsModel", "parse", "()I"⟩ prog_10_method_46_code 3 (some .int) ∈ z_W := z_Win17 (List.mem_of_getElem? (i := 17) rfl)
theorem kw_698 : Cond.methodLink "ViewRoundsModel" 283 ⟨"ViewRoundsModel", "forget", "()V"⟩ ∈ z_W := z_Win17 (List.mem_of_getElem? (i := 18) rfl)
theorem kw_699 : Cond.instanceMethod ⟨"ViewRoundsModel", "forget", "()V"⟩ ∈ z_W := z_Win17 (List.mem_of_getElem? (i := 19) rfl)
theorem kw_700 : Cond.code ⟨"ViewRoundsModel", "forget", "()V"⟩ prog_10_method_45_code 2 none ∈ z_W := z_Win17 (List.mem_of_getElem? (i := 20) rfl)
theorem kw_701 : Cond.methodLink "ViewRoundsModel" 289 ⟨"ViewRoundsModel", "rule", "()V"⟩ ∈ z_W := z_Win17 (List.mem_of_getElem? (i := 21) rfl)
theorem kw_702 : Cond.instanceMethod ⟨"ViewRoundsModel", "rule", "()V"⟩ ∈ z_W := z_Win17 (List.mem_of_getElem? (i := 22) rfl)
theorem kw_703 : Cond.code ⟨"ViewRoundsModel", "rule", "()V"⟩ prog_10_method_15_code 2 none ∈ z_W := z_Win17 (List.mem_of_getElem? (i := 23) rfl)
theorem kw_704 : Cond.methodLink "ViewRoundsModel" 127 ⟨"ViewRoundsModel", "sign", "()I"⟩ ∈ z_W := z_Win17 (List.mem_of_getElem? (i := 24) rfl)
theorem kw_705 : Cond.instanceMethod ⟨"ViewRoundsModel", "sign", "()I"⟩ ∈ z_W := z_Win17 (List.mem_of_getElem? (i := 25) rfl)
theorem kw_706 : Cond.code ⟨"ViewRoundsModel", "sign", "()I"⟩ prog_10_method_4_code 1 (some .int) ∈ z_W := z_Win17 (List.mem_of_getElem? (i := 26) rfl)
theorem kw_707 : Cond.methodLink "ViewRoundsModel" 135 ⟨"ViewRoundsModel", "isName", "(I)Z"⟩ ∈ z_W := z_Win17 (List.mem_of_getElem? (i := 27) rfl)
theorem kw_708 : Cond.static ⟨"ViewRoundsModel", "isName", "(I)Z"⟩ ∈ z_W := z_Win17 (List.mem_of_getElem? (i := 28) rfl)
theorem kw_709 : Cond.code ⟨"ViewRoundsModel", "isName", "(I)Z"⟩ prog_10_method_7_code 1 (some .boolean) ∈ z_W := z_Win17 (List.mem_of_getElem? (i := 29) rfl)
theorem kw_710 : Cond.methodLink "ViewRoundsModel" 131 ⟨"ViewRoundsModel", "wrong", "(I)V"⟩ ∈ z_W := z_Win17 (List.mem_of_getElem? (i := 30) rfl)
theorem kw_711 : Cond.instanceMethod ⟨"ViewRoundsModel", "wrong", "(I)V"⟩ ∈ z_W := z_Win17 (List.mem_of_getElem? (i := 31) rfl)
theorem kw_712 : Cond.code ⟨"ViewRoundsModel", "wrong", "(I)V"⟩ prog_10_method_3_code 2 none ∈ z_W := z_Win17 (List.mem_of_getElem? (i := 32) rfl)
theorem kw_713 : Cond.methodLink "ViewRoundsModel" 158 ⟨"ViewRoundsModel", "relationAt", "()I"⟩ ∈ z_W := z_Win17 (List.mem_of_getElem? (i := 33) rfl)
theorem kw_714 : Cond.instanceMethod ⟨"ViewRoundsModel", "relationAt", "()I"⟩ ∈ z_W := z_Win17 (List.mem_of_getElem? (i := 34) rfl)
theorem kw_715 : Cond.code ⟨"ViewRoundsModel", "relationAt", "()I"⟩ prog_10_method_10_code 3 (some .int) ∈ z_W := z_Win17 (List.mem_of_getElem? (i := 35) rfl)
theorem kw_716 : Cond.methodLink "ViewRoundsModel" 161 ⟨"ViewRoundsModel", "terms", "(II[IIZ)V"⟩ ∈ z_W := z_Win17 (List.mem_of_getElem? (i := 36) rfl)
theorem kw_717 : Cond.instanceMethod ⟨"ViewRoundsModel", "terms", "(II[IIZ)V"⟩ ∈ z_W := z_Win17 (List.mem_of_getElem? (i := 37) rfl)
theorem kw_718 : Cond.code ⟨"ViewRoundsModel", "terms", "(II[IIZ)V"⟩ prog_10_method_12_code 10 none ∈ z_W := z_Win17 (List.mem_of_getElem? (i := 38) rfl)
theorem kw_719 : Cond.methodLink "ViewRoundsModel" 152 ⟨"ViewRoundsModel", "take", "(I)V"⟩ ∈ z_W := z_Win17 (List.mem_of_getElem? (i := 39) rfl)
theorem kw_720 : Cond.instanceMethod ⟨"ViewRoundsModel", "take", "(I)V"⟩ ∈ z_W := z_Win18 (List.mem_of_getElem? (i := 0) rfl)
theorem kw_721 : Cond.code ⟨"ViewRoundsModel", "take", "(I)V"⟩ prog_10_method_5_code 2 none ∈ z_W := z_Win18 (List.mem_of_getElem? (i := 1) rfl)
theorem kw_722 : Cond.methodLink "ViewRoundsModel" 155 ⟨"ViewRoundsModel", "term", "(I)I"⟩ ∈ z_W := z_Win18 (List.mem_of_getElem? (i := 2) rfl)
theorem kw_723 : Cond.instanceMethod ⟨"ViewRoundsModel", "term", "(I)I"⟩ ∈ z_W := z_Win18 (List.mem_of_getElem? (i := 3) rfl)
theorem kw_724 : Cond.code ⟨"ViewRoundsModel", "term", "(I)I"⟩ prog_10_method_11_code 5 (some .int) ∈ z_W := z_Win18 (List.mem_of_getElem? (i := 4) rfl)
theorem kw_725 : Cond.methodLink "ViewRoundsModel" 142 ⟨"ViewRoundsModel", "isVariable", "(I)Z"⟩ ∈ z_W := z_Win18 (List.mem_of_getElem? (i := 5) rfl)
theorem kw_726 : Cond.static ⟨"ViewRoundsModel", "isVariable", "(I)Z"⟩ ∈ z_W := z_Win18 (List.mem_of_getElem? (i := 6) rfl)
theorem kw_727 : Cond.code ⟨"ViewRoundsModel", "isVariable", "(I)Z"⟩ prog_10_method_8_code 1 (some .boolean) ∈ z_W := z_Win18 (List.mem_of_getElem? (i := 7) rfl)
theorem kw_728 : Cond.methodLink "ViewRoundsModel" 145 ⟨"ViewRoundsModel", "count", "(I)I"⟩ ∈ z_W := z_Win18 (List.mem_of_getElem? (i := 8) rfl)
theorem kw_729 : Cond.static ⟨"ViewRoundsModel", "count", "(I)I"⟩ ∈ z_W := z_Win18 (List.mem_of_getElem? (i := 9) rfl)
theorem kw_730 : Cond.code ⟨"ViewRoundsModel", "count", "(I)I"⟩ prog_10_method_6_code 3 (some .int) ∈ z_W := z_Win18 (List.mem_of_getElem? (i := 10) rfl)
theorem kw_731 : Cond.methodLink "ViewRoundsModel" 149 ⟨"ViewRoundsModel", "isDigit", "(I)Z"⟩ ∈ z_W := z_Win18 (List.mem_of_getElem? (i := 11) rfl)
theorem kw_732 : Cond.static ⟨"ViewRoundsModel", "isDigit", "(I)Z"⟩ ∈ z_W := z_Win18 (List.mem_of_getElem? (i := 12) rfl)
theorem kw_733 : Cond.code ⟨"ViewRoundsModel", "isDigit", "(I)Z"⟩ prog_10_method_9_code 1 (some .boolean) ∈ z_W := z_Win18 (List.mem_of_getElem? (i := 13) rfl)
theorem kw_734 : Cond.methodLink "ViewRoundsModel" 167 ⟨"ViewRoundsModel", "literal", "(I)V"⟩ ∈ z_W := z_Win18 (List.mem_of_getElem? (i := 14) rfl)
theorem kw_735 : Cond.instanceMethod ⟨"ViewRoundsModel", "literal", "(I)V"⟩ ∈ z_W := z_Win18 (List.mem_of_getElem? (i := 15) rfl)
theorem kw_736 : Cond.code ⟨"ViewRoundsModel", "literal", "(I)V"⟩ prog_10_method_13_code 8 none ∈ z_W := z_Win18 (List.mem_of_getElem? (i := 16) rfl)
theorem kw_737 : Cond.methodLink "ViewRoundsModel" 170 ⟨"ViewRoundsModel", "judge", "(I)V"⟩ ∈ z_W := z_Win18 (List.mem_of_getElem? (i := 17) rfl)
theorem kw_738 : Cond.instanceMethod ⟨"ViewRoundsModel", "judge", "(I)V"⟩ ∈ z_W := z_Win18 (List.mem_of_getElem? (i := 18) rfl)
theorem kw_739 : Cond.code ⟨"ViewRoundsModel", "judge", "(I)V"⟩ prog_10_method_16_code 7 none ∈ z_W := z_Win18 (List.mem_of_getElem? (i := 19) rfl)
theorem kw_740 : Cond.methodLink "ViewRoundsModel" 173 ⟨"ViewRoundsModel", "lettersOf", "([II)I"⟩ ∈ z_W := z_Win18 (List.mem_of_getElem? (i := 20) rfl)
theorem kw_741 : Cond.static ⟨"ViewRoundsModel", "lettersOf", "([II)I"⟩ ∈ z_W := z_Win18 (List.mem_of_getElem? (i := 21) rfl)
theorem kw_742 : Cond.code ⟨"ViewRoundsModel", "lettersOf", "([II)I"⟩ prog_10_method_14_code 4 (some .int) ∈ z_W := z_Win18 (List.mem_of_getElem? (i := 22) rfl)
theorem kw_743 : Cond.methodLink "ViewRoundsModel" 292 ⟨"ViewRoundsModel", "reaches", "()V"⟩ ∈ z_W := z_Win18 (List.mem_of_getElem? (i := 23) rfl)
theorem kw_744 : Cond.instanceMethod ⟨"ViewRoundsModel", "reaches", "()V"⟩ ∈ z_W := z_Win18 (List.mem_of_getElem? (i := 24) rfl)
theorem kw_745 : Cond.code ⟨"ViewRoundsModel", "reaches", "()V"⟩ prog_10_method_19_code 4 none ∈ z_W := z_Win18 (List.mem_of_getElem? (i := 25) rfl)
theorem kw_746 : Cond.methodLink "ViewRoundsModel" 295 ⟨"ViewRoundsModel", "layers", "()Z"⟩ ∈ z_W := z_Win18 (List.mem_of_getElem? (i := 26) rfl)
theorem kw_747 : Cond.instanceMethod ⟨"ViewRoundsModel", "layers", "()Z"⟩ ∈ z_W := z_Win18 (List.mem_of_getElem? (i := 27) rfl)
theorem kw_748 : Cond.code ⟨"ViewRoundsModel", "layers", "()Z"⟩ prog_10_method_18_code 6 (some .boolean) ∈ z_W := z_Win18 (List.mem_of_getElem? (i := 28) rfl)
theorem kw_749 : Cond.methodLink "ViewRoundsModel" 177 ⟨"ViewRoundsModel", "isStrict", "(II)Z"⟩ ∈ z_W := z_Win18 (List.mem_of_getElem? (i := 29) rfl)
theorem kw_750 : Cond.instanceMethod ⟨"ViewRoundsModel", "isStrict", "(II)Z"⟩ ∈ z_W := z_Win18 (List.mem_of_getElem? (i := 30) rfl)
theorem kw_751 : Cond.code ⟨"ViewRoundsModel", "isStrict", "(II)Z"⟩ prog_10_method_17_code 3 (some .boolean) ∈ z_W := z_Win18 (List.mem_of_getElem? (i := 31) rfl)
theorem kw_752 : Cond.methodLink "ViewRoundsModel" 298 ⟨"ViewRoundsModel", "findRing", "()V"⟩ ∈ z_W := z_Win18 (List.mem_of_getElem? (i := 32) rfl)
theorem kw_753 : Cond.instanceMethod ⟨"ViewRoundsModel", "findRing", "()V"⟩ ∈ z_W := z_Win18 (List.mem_of_getElem? (i := 33) rfl)
theorem kw_754 : Cond.code ⟨"ViewRoundsModel", "findRing", "()V"⟩ prog_10_method_21_code 3 none ∈ z_W := z_Win18 (List.mem_of_getElem? (i := 34) rfl)
theorem kw_755 : Cond.methodLink "ViewRoundsModel" 181 ⟨"ViewRoundsModel", "isBadRing", "(I)Z"⟩ ∈ z_W := z_Win18 (List.mem_of_getElem? (i := 35) rfl)
theorem kw_756 : Cond.instanceMethod ⟨"ViewRoundsModel", "isBadRing", "(I)Z"⟩ ∈ z_W := z_Win18 (List.mem_of_getElem? (i := 36) rfl)
theorem kw_757 : Cond.code ⟨"ViewRoundsModel", "isBadRing", "(I)Z"⟩ prog_10_method_20_code 7 (some .boolean) ∈ z_W := z_Win18 (List.mem_of_getElem? (i := 37) rfl)
theorem kw_758 : Cond.methodLink "ViewRoundsModel" 301 ⟨"ViewRoundsModel", "ringMany", "()V"⟩ ∈ z_W := z_Win18 (List.mem_of_getElem? (i := 38) rfl)
theorem kw_759 : Cond.instanceMethod ⟨"ViewRoundsModel", "ringMany", "()V"⟩ ∈ z_W := z_Win18 (List.mem_of_getElem? (i := 39) rfl)
theorem kw_760 : Cond.code ⟨"ViewRoundsModel", "ringMany", "()V"⟩ prog_10_method_47_code 2 none ∈ z_W := z_Win19 (List.mem_of_getElem? (i := 0) rfl)
theorem kw_761 : Cond.methodLink "ViewRoundsModel" 258 ⟨"ViewRoundsModel", "work", "()Z"⟩ ∈ z_W := z_Win19 (List.mem_of_getElem? (i := 1) rfl)
theorem kw_762 : Cond.instanceMethod ⟨"ViewRoundsModel", "work", "()Z"⟩ ∈ z_W := z_Win19 (List.mem_of_getElem? (i := 2) rfl)
theorem kw_763 : Cond.code ⟨"ViewRoundsModel", "work", "()Z"⟩ prog_10_method_37_code 5 (some .boolean) ∈ z_W := z_Win19 (List.mem_of_getElem? (i := 3) rfl)
theorem kw_764 : Cond.methodLink "ViewRoundsModel" 239 ⟨"ViewRoundsModel", "countRule", "(I)Z"⟩ ∈ z_W := z_Win19 (List.mem_of_getElem? (i := 4) rfl)
theorem kw_765 : Cond.instanceMethod ⟨"ViewRoundsModel", "countRule", "(I)Z"⟩ ∈ z_W := z_Win19 (List.mem_of_getElem? (i := 5) rfl)
theorem kw_766 : Cond.code ⟨"ViewRoundsModel", "countRule", "(I)Z"⟩ prog_10_method_35_code 7 (some .boolean) ∈ z_W := z_Win19 (List.mem_of_getElem? (i := 6) rfl)
theorem kw_767 : Cond.methodLink "ViewRoundsModel" 220 ⟨"ViewRoundsModel", "markOf", "(I)I"⟩ ∈ z_W := z_Win19 (List.mem_of_getElem? (i := 7) rfl)
theorem kw_768 : Cond.instanceMethod ⟨"ViewRoundsModel", "markOf", "(I)I"⟩ ∈ z_W := z_Win19 (List.mem_of_getElem? (i := 8) rfl)
theorem kw_769 : Cond.code ⟨"ViewRoundsModel", "markOf", "(I)I"⟩ prog_10_method_34_code 4 (some .int) ∈ z_W := z_Win19 (List.mem_of_getElem? (i := 9) rfl)
theorem kw_770 : Cond.methodLink "ViewRoundsModel" 226 ⟨"ViewRoundsModel", "begin", "(I)V"⟩ ∈ z_W := z_Win19 (List.mem_of_getElem? (i := 10) rfl)
theorem kw_771 : Cond.instanceMethod ⟨"ViewRoundsModel", "begin", "(I)V"⟩ ∈ z_W := z_Win19 (List.mem_of_getElem? (i := 11) rfl)
theorem kw_772 : Cond.code ⟨"ViewRoundsModel", "begin", "(I)V"⟩ prog_10_method_28_code 3 none ∈ z_W := z_Win19 (List.mem_of_getElem? (i := 12) rfl)
theorem kw_773 : Cond.methodLink "ViewRoundsModel" 229 ⟨"ViewRoundsModel", "next", "()Z"⟩ ∈ z_W := z_Win19 (List.mem_of_getElem? (i := 13) rfl)
theorem kw_774 : Cond.instanceMethod ⟨"ViewRoundsModel", "next", "()Z"⟩ ∈ z_W := z_Win19 (List.mem_of_getElem? (i := 14) rfl)
theorem kw_775 : Cond.code ⟨"ViewRoundsModel", "next", "()Z"⟩ prog_10_method_32_code 3 (some .boolean) ∈ z_W := z_Win19 (List.mem_of_getElem? (i := 15) rfl)
theorem kw_776 : Cond.methodLink "ViewRoundsModel" 212 ⟨"ViewRoundsModel", "holds", "()Z"⟩ ∈ z_W := z_Win19 (List.mem_of_getElem? (i := 16) rfl)
theorem kw_777 : Cond.instanceMethod ⟨"ViewRoundsModel", "holds", "()Z"⟩ ∈ z_W := z_Win19 (List.mem_of_getElem? (i := 17) rfl)
theorem kw_778 : Cond.code ⟨"ViewRoundsModel", "holds", "()Z"⟩ prog_10_method_31_code 5 (some .boolean) ∈ z_W := z_Win19 (List.mem_of_getElem? (i := 18) rfl)
theorem kw_779 : Cond.methodLink "ViewRoundsModel" 205 ⟨"ViewRoundsModel", "valueOf", "(II)I"⟩ ∈ z_W := z_Win19 (List.mem_of_getElem? (i := 19) rfl)
theorem kw_780 : Cond.instanceMethod ⟨"ViewRoundsModel", "valueOf", "(II)I"⟩ ∈ z_W := z_Win19 (List.mem_of_getElem? (i := 20) rfl)
theorem kw_781 : Cond.code ⟨"ViewRoundsModel", "valueOf", "(II)I"⟩ prog_10_method_29_code 3 (some .int) ∈ z_W := z_Win19 (List.mem_of_getElem? (i := 21) rfl)
theorem kw_782 : Cond.methodLink "ViewRoundsModel" 208 ⟨"ViewRoundsModel", "find", "(IIII)I"⟩ ∈ z_W := z_Win19 (List.mem_of_getElem? (i := 22) rfl)
theorem kw_783 : Cond.instanceMethod ⟨"ViewRoundsModel", "find", "(IIII)I"⟩ ∈ z_W := z_Win19 (List.mem_of_getElem? (i := 23) rfl)
theorem kw_784 : Cond.code ⟨"ViewRoundsModel", "find", "(IIII)I"⟩ prog_10_method_24_code 6 (some .int) ∈ z_W := z_Win19 (List.mem_of_getElem? (i := 24) rfl)
theorem kw_785 : Cond.methodLink "ViewRoundsModel" 188 ⟨"ViewRoundsModel", "compare", "(IIIII)I"⟩ ∈ z_W := z_Win19 (List.mem_of_getElem? (i := 25) rfl)
theorem kw_786 : Cond.instanceMethod ⟨"ViewRoundsModel", "compare", "(IIIII)I"⟩ ∈ z_W := z_Win19 (List.mem_of_getElem? (i := 26) rfl)
theorem kw_787 : Cond.code ⟨"ViewRoundsModel", "compare", "(IIIII)I"⟩ prog_10_method_23_code 8 (some .int) ∈ z_W := z_Win19 (List.mem_of_getElem? (i := 27) rfl)
theorem kw_788 : Cond.methodLink "ViewRoundsModel" 184 ⟨"ViewRoundsModel", "base", "(II)I"⟩ ∈ z_W := z_Win19 (List.mem_of_getElem? (i := 28) rfl)
theorem kw_789 : Cond.instanceMethod ⟨"ViewRoundsModel", "base", "(II)I"⟩ ∈ z_W := z_Win19 (List.mem_of_getElem? (i := 29) rfl)
theorem kw_790 : Cond.code ⟨"ViewRoundsModel", "base", "(II)I"⟩ prog_10_method_22_code 3 (some .int) ∈ z_W := z_Win19 (List.mem_of_getElem? (i := 30) rfl)
theorem kw_791 : Cond.methodLink "ViewRoundsModel" 216 ⟨"ViewRoundsModel", "fits", "(III)Z"⟩ ∈ z_W := z_Win19 (List.mem_of_getElem? (i := 31) rfl)
theorem kw_792 : Cond.instanceMethod ⟨"ViewRoundsModel", "fits", "(III)Z"⟩ ∈ z_W := z_Win19 (List.mem_of_getElem? (i := 32) rfl)
theorem kw_793 : Cond.code ⟨"ViewRoundsModel", "fits", "(III)Z"⟩ prog_10_method_30_code 8 (some .boolean) ∈ z_W := z_Win19 (List.mem_of_getElem? (i := 33) rfl)
theorem kw_794 : Cond.methodLink "ViewRoundsModel" 232 ⟨"ViewRoundsModel", "headValue", "(I)I"⟩ ∈ z_W := z_Win19 (List.mem_of_getElem? (i := 34) rfl)
theorem kw_795 : Cond.instanceMethod ⟨"ViewRoundsModel", "headValue", "(I)I"⟩ ∈ z_W := z_Win19 (List.mem_of_getElem? (i := 35) rfl)
theorem kw_796 : Cond.code ⟨"ViewRoundsModel", "headValue", "(I)I"⟩ prog_10_method_33_code 3 (some .int) ∈ z_W := z_Win19 (List.mem_of_getElem? (i := 36) rfl)
theorem kw_797 : Cond.methodLink "ViewRoundsModel" 235 ⟨"ViewRoundsModel", "insert", "(IIIII)Z"⟩ ∈ z_W := z_Win19 (List.mem_of_getElem? (i := 37) rfl)
theorem kw_798 : Cond.instanceMethod ⟨"ViewRoundsModel", "insert", "(IIIII)Z"⟩ ∈ z_W := z_Win19 (List.mem_of_getElem? (i := 38) rfl)
theorem kw_799 : Cond.code ⟨"ViewRoundsModel", "insert", "(IIIII)Z"⟩ prog_10_method_25_code 8 (some .boolean) ∈ z_W := z_Win19 (List.mem_of_getElem? (i := 39) rfl)
theorem kw_800 : Cond.methodLink "ViewRoundsModel" 192 ⟨"ViewRoundsModel", "move", "(III)V"⟩ ∈ z_W := z_Win20 (List.mem_of_getElem? (i := 0) rfl)
theorem kw_801 : Cond.instanceMethod ⟨"ViewRoundsModel", "move", "(III)V"⟩ ∈ z_W := z_Win20 (List.mem_of_getElem? (i := 1) rfl)
theorem kw_802 : Cond.code ⟨"ViewRoundsModel", "move", "(III)V"⟩ prog_10_method_26_code 5 none ∈ z_W := z_Win20 (List.mem_of_getElem? (i := 2) rfl)
theorem kw_803 : Cond.methodLink "ViewRoundsModel" 242 ⟨"ViewRoundsModel", "plainRule", "(I)I"⟩ ∈ z_W := z_Win20 (List.mem_of_getElem? (i := 3) rfl)
theorem kw_804 : Cond.instanceMethod ⟨"ViewRoundsModel", "plainRule", "(I)I"⟩ ∈ z_W := z_Win20 (List.mem_of_getElem? (i := 4) rfl)
theorem kw_805 : Cond.code ⟨"ViewRoundsModel", "plainRule", "(I)I"⟩ prog_10_method_36_code 7 (some .int) ∈ z_W := z_Win20 (List.mem_of_getElem? (i := 5) rfl)
theorem kw_806 : Cond.methodLink "ViewRoundsLaw" 28 ⟨"ViewRoundsModel", "place", "()I"⟩ ∈ z_W := z_Win20 (List.mem_of_getElem? (i := 6) rfl)
theorem kw_807 : Cond.instanceMethod ⟨"ViewRoundsModel", "place", "()I"⟩ ∈ z_W := z_Win20 (List.mem_of_getElem? (i := 7) rfl)
theorem kw_808 : Cond.selects "ViewRoundsModel" ⟨"ViewRoundsModel", "place", "()I"⟩ ⟨"ViewRoundsModel", "place", "()I"⟩ ∈ z_W := z_Win20 (List.mem_of_getElem? (i := 8) rfl)
theorem kw_809 : Cond.code ⟨"ViewRoundsModel", "place", "()I"⟩ prog_10_method_48_code 1 (some .int) ∈ z_W := z_Win20 (List.mem_of_getElem? (i := 9) rfl)
theorem kw_810 : Cond.methodLink "ViewRoundsLaw" 33 ⟨"ViewRoundsModel", "ring", "(I)I"⟩ ∈ z_W := z_Win20 (List.mem_of_getElem? (i := 10) rfl)
theorem kw_811 : Cond.instanceMethod ⟨"ViewRoundsModel", "ring", "(I)I"⟩ ∈ z_W := z_Win20 (List.mem_of_getElem? (i := 11) rfl)
theorem kw_812 : Cond.selects "ViewRoundsModel" ⟨"ViewRoundsModel", "ring", "(I)I"⟩ ⟨"ViewRoundsModel", "ring", "(I)I"⟩ ∈ z_W := z_Win20 (List.mem_of_getElem? (i := 12) rfl)
theorem kw_813 : Cond.code ⟨"ViewRoundsModel", "ring", "(I)I"⟩ prog_10_method_49_code 2 (some .int) ∈ z_W := z_Win20 (List.mem_of_getElem? (i := 13) rfl)
theorem kw_814 : Cond.methodLink "ViewRoundsLaw" 37 ⟨"ViewRoundsModel", "relation", "(I)I"⟩ ∈ z_W := z_Win20 (List.mem_of_getElem? (i := 14) rfl)
theorem kw_815 : Cond.instanceMethod ⟨"ViewRoundsModel", "relation", "(I)I"⟩ ∈ z_W := z_Win20 (List.mem_of_getElem? (i := 15) rfl)
theorem kw_816 : Cond.selects "ViewRoundsModel" ⟨"ViewRoundsModel", "relation", "(I)I"⟩ ⟨"ViewRoundsModel", "relation", "(I)I"⟩ ∈ z_W := z_Win20 (List.mem_of_getElem? (i := 16) rfl)
theorem kw_817 : Cond.code ⟨"ViewRoundsModel", "relation", "(I)I"⟩ prog_10_method_50_code 3 (some .int) ∈ z_W := z_Win20 (List.mem_of_getElem? (i := 17) rfl)
theorem kw_818 : Cond.methodLink "ViewRoundsLaw" 42 ⟨"ViewRoundsModel", "of", "(II)I"⟩ ∈ z_W := z_Win20 (List.mem_of_getElem? (i := 18) rfl)
theorem kw_819 : Cond.instanceMethod ⟨"ViewRoundsModel", "of", "(II)I"⟩ ∈ z_W := z_Win20 (List.mem_of_getElem? (i := 19) rfl)
theorem kw_820 : Cond.selects "ViewRoundsModel" ⟨"ViewRoundsModel", "of", "(II)I"⟩ ⟨"ViewRoundsModel", "of", "(II)I"⟩ ∈ z_W := z_Win20 (List.mem_of_getElem? (i := 20) rfl)
theorem kw_821 : Cond.code ⟨"ViewRoundsModel", "of", "(II)I"⟩ prog_10_method_52_code 3 (some .int) ∈ z_W := z_Win20 (List.mem_of_getElem? (i := 21) rfl)
theorem kw_822 : Cond.methodLink "ViewRoundsModel" 307 ⟨"ViewRoundsModel", "isRelation", "(I)Z"⟩ ∈ z_W := z_Win20 (List.mem_of_getElem? (i := 22) rfl)
theorem kw_823 : Cond.instanceMethod ⟨"ViewRoundsModel", "isRelation", "(I)Z"⟩ ∈ z_W := z_Win20 (List.mem_of_getElem? (i := 23) rfl)
theorem kw_824 : Cond.code ⟨"ViewRoundsModel", "isRelation", "(I)Z"⟩ prog_10_method_51_code 2 (some .boolean) ∈ z_W := z_Win20 (List.mem_of_getElem? (i := 24) rfl)
theorem kw_825 : Cond.methodLink "ViewRoundsLaw" 47 ⟨"ViewRoundsModel", "change", "(IIIII)I"⟩ ∈ z_W := z_Win20 (List.mem_of_getElem? (i := 25) rfl)
theorem kw_826 : Cond.instanceMethod ⟨"ViewRoundsModel", "change", "(IIIII)I"⟩ ∈ z_W := z_Win20 (List.mem_of_getElem? (i := 26) rfl)
theorem kw_827 : Cond.selects "ViewRoundsModel" ⟨"ViewRoundsModel", "change", "(IIIII)I"⟩ ⟨"ViewRoundsModel", "change", "(IIIII)I"⟩ ∈ z_W := z_Win20 (List.mem_of_getElem? (i := 27) rfl)
theorem kw_828 : Cond.code ⟨"ViewRoundsModel", "change", "(IIIII)I"⟩ prog_10_method_55_code 7 (some .int) ∈ z_W := z_Win20 (List.mem_of_getElem? (i := 28) rfl)
theorem kw_829 : Cond.methodLink "ViewRoundsModel" 314 ⟨"ViewRoundsModel", "areValues", "(IIII)Z"⟩ ∈ z_W := z_Win20 (List.mem_of_getElem? (i := 29) rfl)
theorem kw_830 : Cond.instanceMethod ⟨"ViewRoundsModel", "areValues", "(IIII)Z"⟩ ∈ z_W := z_Win20 (List.mem_of_getElem? (i := 30) rfl)
theorem kw_831 : Cond.code ⟨"ViewRoundsModel", "areValues", "(IIII)Z"⟩ prog_10_method_54_code 5 (some .boolean) ∈ z_W := z_Win20 (List.mem_of_getElem? (i := 31) rfl)
theorem kw_832 : Cond.methodLink "ViewRoundsModel" 310 ⟨"ViewRoundsModel", "given", "(III)I"⟩ ∈ z_W := z_Win20 (List.mem_of_getElem? (i := 32) rfl)
theorem kw_833 : Cond.instanceMethod ⟨"ViewRoundsModel", "given", "(III)I"⟩ ∈ z_W := z_Win20 (List.mem_of_getElem? (i := 33) rfl)
theorem kw_834 : Cond.code ⟨"ViewRoundsModel", "given", "(III)I"⟩ prog_10_method_53_code 4 (some .int) ∈ z_W := z_Win20 (List.mem_of_getElem? (i := 34) rfl)
theorem kw_835 : Cond.methodLink "ViewRoundsLaw" 51 ⟨"ViewRoundsModel", "batch", "()I"⟩ ∈ z_W := z_Win20 (List.mem_of_getElem? (i := 35) rfl)
theorem kw_836 : Cond.instanceMethod ⟨"ViewRoundsModel", "batch", "()I"⟩ ∈ z_W := z_Win20 (List.mem_of_getElem? (i := 36) rfl)
theorem kw_837 : Cond.selects "ViewRoundsModel" ⟨"ViewRoundsModel", "batch", "()I"⟩ ⟨"ViewRoundsModel", "batch", "()I"⟩ ∈ z_W := z_Win20 (List.mem_of_getElem? (i := 37) rfl)
theorem kw_838 : Cond.code ⟨"ViewRoundsModel", "batch", "()I"⟩ prog_10_method_56_code 4 (some .int) ∈ z_W := z_Win20 (List.mem_of_getElem? (i := 38) rfl)
theorem kw_839 : Cond.methodLink "ViewRoundsModel" 318 ⟨"ViewRoundsModel", "sum", "([IIII)V"⟩ ∈ z_W := z_Win20 (List.mem_of_getElem? (i := 39) rfl)
theorem kw_840 : Cond.instanceMethod ⟨"ViewRoundsModel", "sum", "([IIII)V"⟩ ∈ z_W := z_Win21 (List.mem_of_getElem? (i := 0) rfl)
theorem kw_841 : Cond.code ⟨"ViewRoundsModel", "sum", "([IIII)V"⟩ prog_10_method_40_code 9 none ∈ z_W := z_Win21 (List.mem_of_getElem? (i := 1) rfl)
theorem kw_842 : Cond.methodLink "ViewRoundsModel" 322 ⟨"ViewRoundsModel", "apply", "()I"⟩ ∈ z_W := z_Win21 (List.mem_of_getElem? (i := 2) rfl)
theorem kw_843 : Cond.instanceMethod ⟨"ViewRoundsModel", "apply", "()I"⟩ ∈ z_W := z_Win21 (List.mem_of_getElem? (i := 3) rfl)
theorem kw_844 : Cond.code ⟨"ViewRoundsModel", "apply", "()I"⟩ prog_10_method_41_code 7 (some .int) ∈ z_W := z_Win21 (List.mem_of_getElem? (i := 4) rfl)
theorem kw_845 : Cond.methodLink "ViewRoundsModel" 248 ⟨"ViewRoundsModel", "keep", "()V"⟩ ∈ z_W := z_Win21 (List.mem_of_getElem? (i := 5) rfl)
theorem kw_846 : Cond.instanceMethod ⟨"ViewRoundsModel", "keep", "()V"⟩ ∈ z_W := z_Win21 (List.mem_of_getElem? (i := 6) rfl)
theorem kw_847 : Cond.code ⟨"ViewRoundsModel", "keep", "()V"⟩ prog_10_method_38_code 2 none ∈ z_W := z_Win21 (List.mem_of_getElem? (i := 7) rfl)
theorem kw_848 : Cond.methodLink "ViewRoundsModel" 251 ⟨"ViewRoundsModel", "remove", "(II)V"⟩ ∈ z_W := z_Win21 (List.mem_of_getElem? (i := 8) rfl)
theorem kw_849 : Cond.instanceMethod ⟨"ViewRoundsModel", "remove", "(II)V"⟩ ∈ z_W := z_Win21 (List.mem_of_getElem? (i := 9) rfl)
theorem kw_850 : Cond.code ⟨"ViewRoundsModel", "remove", "(II)V"⟩ prog_10_method_27_code 4 none ∈ z_W := z_Win21 (List.mem_of_getElem? (i := 10) rfl)
theorem kw_851 : Cond.methodLink "ViewRoundsModel" 255 ⟨"ViewRoundsModel", "back", "()V"⟩ ∈ z_W := z_Win21 (List.mem_of_getElem? (i := 11) rfl)
theorem kw_852 : Cond.instanceMethod ⟨"ViewRoundsModel", "back", "()V"⟩ ∈ z_W := z_Win21 (List.mem_of_getElem? (i := 12) rfl)
theorem kw_853 : Cond.code ⟨"ViewRoundsModel", "back", "()V"⟩ prog_10_method_39_code 2 none ∈ z_W := z_Win21 (List.mem_of_getElem? (i := 13) rfl)
theorem kw_854 : Cond.methodLink "ViewRoundsModel" 261 ⟨"ViewRoundsModel", "compareAll", "()V"⟩ ∈ z_W := z_Win21 (List.mem_of_getElem? (i := 14) rfl)
theorem kw_855 : Cond.instanceMethod ⟨"ViewRoundsModel", "compareAll", "()V"⟩ ∈ z_W := z_Win21 (List.mem_of_getElem? (i := 15) rfl)
theorem kw_856 : Cond.code ⟨"ViewRoundsModel", "compareAll", "()V"⟩ prog_10_method_43_code 7 none ∈ z_W := z_Win21 (List.mem_of_getElem? (i := 16) rfl)
theorem kw_857 : Cond.methodLink "ViewRoundsModel" 267 ⟨"ViewRoundsModel", "differ", "(IIIII)V"⟩ ∈ z_W := z_Win21 (List.mem_of_getElem? (i := 17) rfl)
theorem kw_858 : Cond.instanceMethod ⟨"ViewRoundsModel", "differ", "(IIIII)V"⟩ ∈ z_W := z_Win21 (List.mem_of_getElem? (i := 18) rfl)
theorem kw_859 : Cond.code ⟨"ViewRoundsModel", "differ", "(IIIII)V"⟩ prog_10_method_42_code 7 none ∈ z_W := z_Win21 (List.mem_of_getElem? (i := 19) rfl)
theorem kw_860 : Cond.methodLink "ViewRoundsLaw" 55 ⟨"ViewRoundsModel", "drop", "()I"⟩ ∈ z_W := z_Win21 (List.mem_of_getElem? (i := 20) rfl)
theorem kw_861 : Cond.instanceMethod ⟨"ViewRoundsModel", "drop", "()I"⟩ ∈ z_W := z_Win21 (List.mem_of_getElem? (i := 21) rfl)
theorem kw_862 : Cond.selects "ViewRoundsModel" ⟨"ViewRoundsModel", "drop", "()I"⟩ ⟨"ViewRoundsModel", "drop", "()I"⟩ ∈ z_W := z_Win21 (List.mem_of_getElem? (i := 22) rfl)
theorem kw_863 : Cond.code ⟨"ViewRoundsModel", "drop", "()I"⟩ prog_10_method_57_code 2 (some .int) ∈ z_W := z_Win21 (List.mem_of_getElem? (i := 23) rfl)
theorem kw_864 : Cond.methodLink "ViewRoundsLaw" 59 ⟨"ViewRoundsModel", "difference", "(II)I"⟩ ∈ z_W := z_Win21 (List.mem_of_getElem? (i := 24) rfl)
theorem kw_865 : Cond.instanceMethod ⟨"ViewRoundsModel", "difference", "(II)I"⟩ ∈ z_W := z_Win21 (List.mem_of_getElem? (i := 25) rfl)
theorem kw_866 : Cond.selects "ViewRoundsModel" ⟨"ViewRoundsModel", "difference", "(II)I"⟩ ⟨"ViewRoundsModel", "difference", "(II)I"⟩ ∈ z_W := z_Win21 (List.mem_of_getElem? (i := 26) rfl)
theorem kw_867 : Cond.code ⟨"ViewRoundsModel", "difference", "(II)I"⟩ prog_10_method_58_code 3 (some .int) ∈ z_W := z_Win21 (List.mem_of_getElem? (i := 27) rfl)
theorem kw_868 : Cond.methodLink "ViewRoundsLaw" 63 ⟨"ViewRoundsModel", "undo", "()I"⟩ ∈ z_W := z_Win21 (List.mem_of_getElem? (i := 28) rfl)
theorem kw_869 : Cond.instanceMethod ⟨"ViewRoundsModel", "undo", "()I"⟩ ∈ z_W := z_Win21 (List.mem_of_getElem? (i := 29) rfl)
theorem kw_870 : Cond.selects "ViewRoundsModel" ⟨"ViewRoundsModel", "undo", "()I"⟩ ⟨"ViewRoundsModel", "undo", "()I"⟩ ∈ z_W := z_Win21 (List.mem_of_getElem? (i := 30) rfl)
theorem kw_871 : Cond.code ⟨"ViewRoundsModel", "undo", "()I"⟩ prog_10_method_59_code 2 (some .int) ∈ z_W := z_Win21 (List.mem_of_getElem? (i := 31) rfl)
theorem kw_872 : Cond.methodLink "ViewRoundsLaw" 68 ⟨"ViewRoundsModel", "has", "(IIII)I"⟩ ∈ z_W := z_Win21 (List.mem_of_getElem? (i := 32) rfl)
theorem kw_873 : Cond.instanceMethod ⟨"ViewRoundsModel", "has", "(IIII)I"⟩ ∈ z_W := z_Win21 (List.mem_of_getElem? (i := 33) rfl)
theorem kw_874 : Cond.selects "ViewRoundsModel" ⟨"ViewRoundsModel", "has", "(IIII)I"⟩ ⟨"ViewRoundsModel", "has", "(IIII)I"⟩ ∈ z_W := z_Win21 (List.mem_of_getElem? (i := 34) rfl)
theorem kw_875 : Cond.code ⟨"ViewRoundsModel", "has", "(IIII)I"⟩ prog_10_method_60_code 6 (some .int) ∈ z_W := z_Win21 (List.mem_of_getElem? (i := 35) rfl)
theorem kw_876 : Cond.methodLink "ViewRoundsLaw" 73 ⟨"ViewRoundsModel", "row", "(III)I"⟩ ∈ z_W := z_Win21 (List.mem_of_getElem? (i := 36) rfl)
theorem kw_877 : Cond.instanceMethod ⟨"ViewRoundsModel", "row", "(III)I"⟩ ∈ z_W := z_Win21 (List.mem_of_getElem? (i := 37) rfl)
theorem kw_878 : Cond.selects "ViewRoundsModel" ⟨"ViewRoundsModel", "row", "(III)I"⟩ ⟨"ViewRoundsModel", "row", "(III)I"⟩ ∈ z_W := z_Win21 (List.mem_of_getElem? (i := 38) rfl)
theorem kw_879 : Cond.code ⟨"ViewRoundsModel", "row", "(III)I"⟩ prog_10_method_61_code 4 (some .int) ∈ z_W := z_Win21 (List.mem_of_getElem? (i := 39) rfl)
theorem kw_880 : Cond.methodLink "ViewRoundsLaw" 77 ⟨"ViewRoundsModel", "derivations", "(IIII)I"⟩ ∈ z_W := z_Win22 (List.mem_of_getElem? (i := 0) rfl)
theorem kw_881 : Cond.instanceMethod ⟨"ViewRoundsModel", "derivations", "(IIII)I"⟩ ∈ z_W := z_Win22 (List.mem_of_getElem? (i := 1) rfl)
theorem kw_882 : Cond.selects "ViewRoundsModel" ⟨"ViewRoundsModel", "derivations", "(IIII)I"⟩ ⟨"ViewRoundsModel", "derivations", "(IIII)I"⟩ ∈ z_W := z_Win22 (List.mem_of_getElem? (i := 2) rfl)
theorem kw_883 : Cond.code ⟨"ViewRoundsModel", "derivations", "(IIII)I"⟩ prog_10_method_64_code 9 (some .int) ∈ z_W := z_Win22 (List.mem_of_getElem? (i := 3) rfl)
theorem kw_884 : Cond.methodLink "ViewRoundsModel" 325 ⟨"ViewRoundsModel", "isCounted", "(I)Z"⟩ ∈ z_W := z_Win22 (List.mem_of_getElem? (i := 4) rfl)
theorem kw_885 : Cond.instanceMethod ⟨"ViewRoundsModel", "isCounted", "(I)Z"⟩ ∈ z_W := z_Win22 (List.mem_of_getElem? (i := 5) rfl)
theorem kw_886 : Cond.code ⟨"ViewRoundsModel", "isCounted", "(I)Z"⟩ prog_10_method_62_code 4 (some .boolean) ∈ z_W := z_Win22 (List.mem_of_getElem? (i := 6) rfl)
theorem kw_887 : Cond.methodLink "ViewRoundsModel" 328 ⟨"ViewRoundsModel", "leads", "(III)Z"⟩ ∈ z_W := z_Win22 (List.mem_of_getElem? (i := 7) rfl)
theorem kw_888 : Cond.instanceMethod ⟨"ViewRoundsModel", "leads", "(III)Z"⟩ ∈ z_W := z_Win22 (List.mem_of_getElem? (i := 8) rfl)
theorem kw_889 : Cond.code ⟨"ViewRoundsModel", "leads", "(III)Z"⟩ prog_10_method_63_code 4 (some .boolean) ∈ z_W := z_Win22 (List.mem_of_getElem? (i := 9) rfl)
theorem kw_890 : Cond.methodLink "ViewRoundsLaw" 81 ⟨"ViewRoundsModel", "why", "(IIIII)I"⟩ ∈ z_W := z_Win22 (List.mem_of_getElem? (i := 10) rfl)
theorem kw_891 : Cond.instanceMethod ⟨"ViewRoundsModel", "why", "(IIIII)I"⟩ ∈ z_W := z_Win22 (List.mem_of_getElem? (i := 11) rfl)
theorem kw_892 : Cond.selects "ViewRoundsModel" ⟨"ViewRoundsModel", "why", "(IIIII)I"⟩ ⟨"ViewRoundsModel", "why", "(IIIII)I"⟩ ∈ z_W := z_Win22 (List.mem_of_getElem? (i := 12) rfl)
theorem kw_893 : Cond.code ⟨"ViewRoundsModel", "why", "(IIIII)I"⟩ prog_10_method_66_code 11 (some .int) ∈ z_W := z_Win22 (List.mem_of_getElem? (i := 13) rfl)
theorem kw_894 : Cond.methodLink "ViewRoundsModel" 331 ⟨"ViewRoundsModel", "isLess", "()Z"⟩ ∈ z_W := z_Win22 (List.mem_of_getElem? (i := 14) rfl)
theorem kw_895 : Cond.instanceMethod ⟨"ViewRoundsModel", "isLess", "()Z"⟩ ∈ z_W := z_Win22 (List.mem_of_getElem? (i := 15) rfl)
theorem kw_896 : Cond.code ⟨"ViewRoundsModel", "isLess", "()Z"⟩ prog_10_method_65_code 3 (some .boolean) ∈ z_W := z_Win22 (List.mem_of_getElem? (i := 16) rfl)
theorem kw_897 : Cond.methodLink "ViewRoundsModel" 334 ⟨"ViewRoundsModel", "tell", "(II)I"⟩ ∈ z_W := z_Win22 (List.mem_of_getElem? (i := 17) rfl)
theorem kw_898 : Cond.instanceMethod ⟨"ViewRoundsModel", "tell", "(II)I"⟩ ∈ z_W := z_Win22 (List.mem_of_getElem? (i := 18) rfl)
theorem kw_899 : Cond.code ⟨"ViewRoundsModel", "tell", "(II)I"⟩ prog_10_method_67_code 6 (some .int) ∈ z_W := z_Win22 (List.mem_of_getElem? (i := 19) rfl)
theorem kw_900 : Cond.methodLink "ViewRoundsLaw" 86 ⟨"ViewRoundsModel", "anew", "()Z"⟩ ∈ z_W := z_Win22 (List.mem_of_getElem? (i := 20) rfl)
theorem kw_901 : Cond.instanceMethod ⟨"ViewRoundsModel", "anew", "()Z"⟩ ∈ z_W := z_Win22 (List.mem_of_getElem? (i := 21) rfl)
theorem kw_902 : Cond.selects "ViewRoundsModel" ⟨"ViewRoundsModel", "anew", "()Z"⟩ ⟨"ViewRoundsModel", "anew", "()Z"⟩ ∈ z_W := z_Win22 (List.mem_of_getElem? (i := 22) rfl)
theorem kw_903 : Cond.code ⟨"ViewRoundsModel", "anew", "()Z"⟩ prog_10_method_68_code 1 (some .boolean) ∈ z_W := z_Win22 (List.mem_of_getElem? (i := 23) rfl)
theorem kw_904 : Cond.methodLink "ViewRoundsLaw" 90 ⟨"ViewRoundsModel", "told", "(I)I"⟩ ∈ z_W := z_Win22 (List.mem_of_getElem? (i := 24) rfl)
theorem kw_905 : Cond.instanceMethod ⟨"ViewRoundsModel", "told", "(I)I"⟩ ∈ z_W := z_Win22 (List.mem_of_getElem? (i := 25) rfl)
theorem kw_906 : Cond.selects "ViewRoundsModel" ⟨"ViewRoundsModel", "told", "(I)I"⟩ ⟨"ViewRoundsModel", "told", "(I)I"⟩ ∈ z_W := z_Win22 (List.mem_of_getElem? (i := 26) rfl)
theorem kw_907 : Cond.code ⟨"ViewRoundsModel", "told", "(I)I"⟩ prog_10_method_69_code 4 (some .int) ∈ z_W := z_Win22 (List.mem_of_getElem? (i := 27) rfl)
theorem kw_908 : Cond.constantLong "ViewRoundsLaw" 13 (4294967295 : Int64) ∈ z_W := z_Win22 (List.mem_of_getElem? (i := 28) rfl)
theorem kw_909 : Cond.selects "ViewRounds$Reader" ⟨"ViewRounds$Reader", "sign", "()I"⟩ ⟨"ViewRounds$Reader", "sign", "()I"⟩ ∈ z_W := z_Win22 (List.mem_of_getElem? (i := 29) rfl)
theorem kw_910 : Cond.selects "ViewRounds$Reader" ⟨"ViewRounds$Reader", "readRule", "()Z"⟩ ⟨"ViewRounds$Reader", "readRule", "()Z"⟩ ∈ z_W := z_Win22 (List.mem_of_getElem? (i := 30) rfl)
theorem kw_911 : Cond.selects "ViewRounds$Reader" ⟨"ViewRounds$Reader", "fail", "(I)Z"⟩ ⟨"ViewRounds$Reader", "fail", "(I)Z"⟩ ∈ z_W := z_Win22 (List.mem_of_getElem? (i := 31) rfl)
theorem kw_912 : Cond.selects "ViewRounds$Reader" ⟨"ViewRounds$Reader", "readNamed", "(LViewRounds$Atom;Z)Z"⟩ ⟨"ViewRounds$Reader", "readNamed", "(LViewRounds$Atom;Z)Z"⟩ ∈ z_W := z_Win22 (List.mem_of_getElem? (i := 32) rfl)
theorem kw_913 : Cond.selects "ViewRounds$Reader" ⟨"ViewRounds$Reader", "takes", "(I)Z"⟩ ⟨"ViewRounds$Reader", "takes", "(I)Z"⟩ ∈ z_W := z_Win22 (List.mem_of_getElem? (i := 33) rfl)
theorem kw_914 : Cond.selects "ViewRounds$Reader" ⟨"ViewRounds$Reader", "readTerm", "(LViewRounds$Atom;Z)Z"⟩ ⟨"ViewRounds$Reader", "readTerm", "(LViewRounds$Atom;Z)Z"⟩ ∈ z_W := z_Win22 (List.mem_of_getElem? (i := 34) rfl)
theorem kw_915 : Cond.selects "ViewRounds$Reader" ⟨"ViewRounds$Reader", "readNumber", "()I"⟩ ⟨"ViewRounds$Reader", "readNumber", "()I"⟩ ∈ z_W := z_Win22 (List.mem_of_getElem? (i := 35) rfl)
theorem kw_916 : Cond.selects "ViewRounds$Reader" ⟨"ViewRounds$Reader", "closeRule", "()Z"⟩ ⟨"ViewRounds$Reader", "closeRule", "()Z"⟩ ∈ z_W := z_Win22 (List.mem_of_getElem? (i := 36) rfl)
theorem kw_917 : Cond.selects "ViewRounds$Rule" ⟨"ViewRounds$Rule", "nextLiteral", "(II)I"⟩ ⟨"ViewRounds$Rule", "nextLiteral", "(II)I"⟩ ∈ z_W := z_Win22 (List.mem_of_getElem? (i := 37) rfl)
theorem kw_918 : Cond.selects "ViewRounds$Reader" ⟨"ViewRounds$Reader", "readLiteral", "()Z"⟩ ⟨"ViewRounds$Reader", "readLiteral", "()Z"⟩ ∈ z_W := z_Win22 (List.mem_of_getElem? (i := 38) rfl)
theorem kw_919 : Cond.selects "ViewRounds$Reader" ⟨"ViewRounds$Reader", "readOperator", "(LViewRounds$Atom;)Z"⟩ ⟨"ViewRounds$Reader", "readOperator", "(LViewRounds$Atom;)Z"⟩ ∈ z_W := z_Win22 (List.mem_of_getElem? (i := 39) rfl)
theorem kw_920 : Cond.selects "ViewRounds$Program" ⟨"ViewRounds$Program", "findReach", "()V"⟩ ⟨"ViewRounds$Program", "findReach", "()V"⟩ ∈ z_W := z_Win23 (List.mem_of_getElem? (i := 0) rfl)
theorem kw_921 : Cond.selects "ViewRounds$Program" ⟨"ViewRounds$Program", "findRing", "()V"⟩ ⟨"ViewRounds$Program", "findRing", "()V"⟩ ∈ z_W := z_Win23 (List.mem_of_getElem? (i := 1) rfl)
theorem kw_922 : Cond.selects "ViewRounds$Program" ⟨"ViewRounds$Program", "mustLieBelow", "(LViewRounds$Rule;LViewRounds$Atom;)Z"⟩ ⟨"ViewRounds$Program", "mustLieBelow", "(LViewRounds$Rule;LViewRounds$Atom;)Z"⟩ ∈ z_W := z_Win23 (List.mem_of_getElem? (i := 2) rfl)
theorem kw_923 : Cond.selects "ViewRounds$Program" ⟨"ViewRounds$Program", "ringThrough", "(I)I"⟩ ⟨"ViewRounds$Program", "ringThrough", "(I)I"⟩ ∈ z_W := z_Win23 (List.mem_of_getElem? (i := 3) rfl)
theorem kw_924 : Cond.selects "ViewRounds$Program" ⟨"ViewRounds$Program", "chooseRing", "(I)V"⟩ ⟨"ViewRounds$Program", "chooseRing", "(I)V"⟩ ∈ z_W := z_Win23 (List.mem_of_getElem? (i := 4) rfl)
theorem kw_925 : Cond.selects "ViewRounds$Program" ⟨"ViewRounds$Program", "raiseLayers", "()V"⟩ ⟨"ViewRounds$Program", "raiseLayers", "()V"⟩ ∈ z_W := z_Win23 (List.mem_of_getElem? (i := 5) rfl)
theorem kw_926 : Cond.selects "ViewRounds" ⟨"ViewRounds", "forgetRules", "()V"⟩ ⟨"ViewRounds", "forgetRules", "()V"⟩ ∈ z_W := z_Win23 (List.mem_of_getElem? (i := 6) rfl)
theorem kw_927 : Cond.selects "ViewRounds" ⟨"ViewRounds", "keepFault", "(LViewRounds$Reader;)V"⟩ ⟨"ViewRounds", "keepFault", "(LViewRounds$Reader;)V"⟩ ∈ z_W := z_Win23 (List.mem_of_getElem? (i := 7) rfl)
theorem kw_928 : Cond.selects "ViewRounds$Engine" ⟨"ViewRounds$Engine", "begin", "(LViewRounds$Program;[LViewRounds$Rows;I)V"⟩ ⟨"ViewRounds$Engine", "begin", "(LViewRounds$Program;[LViewRounds$Rows;I)V"⟩ ∈ z_W := z_Win23 (List.mem_of_getElem? (i := 8) rfl)
theorem kw_929 : Cond.selects "ViewRounds$Engine" ⟨"ViewRounds$Engine", "seed", "(I)V"⟩ ⟨"ViewRounds$Engine", "seed", "(I)V"⟩ ∈ z_W := z_Win23 (List.mem_of_getElem? (i := 9) rfl)
theorem kw_930 : Cond.selects "ViewRounds$Engine" ⟨"ViewRounds$Engine", "usesLayer", "(I)Z"⟩ ⟨"ViewRounds$Engine", "usesLayer", "(I)Z"⟩ ∈ z_W := z_Win23 (List.mem_of_getElem? (i := 10) rfl)
theorem kw_931 : Cond.selects "ViewRounds$Engine" ⟨"ViewRounds$Engine", "solve", "(I)V"⟩ ⟨"ViewRounds$Engine", "solve", "(I)V"⟩ ∈ z_W := z_Win23 (List.mem_of_getElem? (i := 11) rfl)
theorem kw_932 : Cond.selects "ViewRounds$Engine" ⟨"ViewRounds$Engine", "isNothingNew", "()Z"⟩ ⟨"ViewRounds$Engine", "isNothingNew", "()Z"⟩ ∈ z_W := z_Win23 (List.mem_of_getElem? (i := 12) rfl)
theorem kw_933 : Cond.selects "ViewRounds$Engine" ⟨"ViewRounds$Engine", "keyOf", "(LViewRounds$Atom;)I"⟩ ⟨"ViewRounds$Engine", "keyOf", "(LViewRounds$Atom;)I"⟩ ∈ z_W := z_Win23 (List.mem_of_getElem? (i := 13) rfl)
theorem kw_934 : Cond.selects "ViewRounds$Engine" ⟨"ViewRounds$Engine", "valueOf", "(I)I"⟩ ⟨"ViewRounds$Engine", "valueOf", "(I)I"⟩ ∈ z_W := z_Win23 (List.mem_of_getElem? (i := 14) rfl)
theorem kw_935 : Cond.selects "ViewRounds$Engine" ⟨"ViewRounds$Engine", "found", "()V"⟩ ⟨"ViewRounds$Engine", "found", "()V"⟩ ∈ z_W := z_Win23 (List.mem_of_getElem? (i := 15) rfl)
theorem kw_936 : Cond.selects "ViewRounds$Engine" ⟨"ViewRounds$Engine", "enqueue", "(II)V"⟩ ⟨"ViewRounds$Engine", "enqueue", "(II)V"⟩ ∈ z_W := z_Win23 (List.mem_of_getElem? (i := 16) rfl)
theorem kw_937 : Cond.selects "ViewRounds$Engine" ⟨"ViewRounds$Engine", "isLess", "()Z"⟩ ⟨"ViewRounds$Engine", "isLess", "()Z"⟩ ∈ z_W := z_Win23 (List.mem_of_getElem? (i := 17) rfl)
theorem kw_938 : Cond.selects "ViewRounds$Engine" ⟨"ViewRounds$Engine", "keepValues", "()V"⟩ ⟨"ViewRounds$Engine", "keepValues", "()V"⟩ ∈ z_W := z_Win23 (List.mem_of_getElem? (i := 18) rfl)
theorem kw_939 : Cond.selects "ViewRounds$Engine" ⟨"ViewRounds$Engine", "holds", "(LViewRounds$Atom;)Z"⟩ ⟨"ViewRounds$Engine", "holds", "(LViewRounds$Atom;)Z"⟩ ∈ z_W := z_Win23 (List.mem_of_getElem? (i := 19) rfl)
theorem kw_940 : Cond.selects "ViewRounds$Engine" ⟨"ViewRounds$Engine", "isKnown", "(I)Z"⟩ ⟨"ViewRounds$Engine", "isKnown", "(I)Z"⟩ ∈ z_W := z_Win23 (List.mem_of_getElem? (i := 20) rfl)
theorem kw_941 : Cond.selects "ViewRounds$Engine" ⟨"ViewRounds$Engine", "matches", "(LViewRounds$Atom;I)Z"⟩ ⟨"ViewRounds$Engine", "matches", "(LViewRounds$Atom;I)Z"⟩ ∈ z_W := z_Win23 (List.mem_of_getElem? (i := 21) rfl)
theorem kw_942 : Cond.selects "ViewRounds$Engine" ⟨"ViewRounds$Engine", "closeCounts", "()V"⟩ ⟨"ViewRounds$Engine", "closeCounts", "()V"⟩ ∈ z_W := z_Win23 (List.mem_of_getElem? (i := 22) rfl)
theorem kw_943 : Cond.selects "ViewRounds$Engine" ⟨"ViewRounds$Engine", "spread", "(I)V"⟩ ⟨"ViewRounds$Engine", "spread", "(I)V"⟩ ∈ z_W := z_Win23 (List.mem_of_getElem? (i := 23) rfl)
theorem kw_944 : Cond.selects "ViewRounds" ⟨"ViewRounds", "takeNext", "()V"⟩ ⟨"ViewRounds", "takeNext", "()V"⟩ ∈ z_W := z_Win23 (List.mem_of_getElem? (i := 24) rfl)
theorem kw_945 : Cond.selects "ViewRounds" ⟨"ViewRounds", "hasNoRules", "()Z"⟩ ⟨"ViewRounds", "hasNoRules", "()Z"⟩ ∈ z_W := z_Win23 (List.mem_of_getElem? (i := 25) rfl)
theorem kw_946 : Cond.selects "ViewRounds" ⟨"ViewRounds", "settle", "(LViewRounds$SignedRows;I)I"⟩ ⟨"ViewRounds", "settle", "(LViewRounds$SignedRows;I)I"⟩ ∈ z_W := z_Win23 (List.mem_of_getElem? (i := 26) rfl)
theorem kw_947 : Cond.selects "ViewRounds" ⟨"ViewRounds", "copyTables", "()V"⟩ ⟨"ViewRounds", "copyTables", "()V"⟩ ∈ z_W := z_Win23 (List.mem_of_getElem? (i := 27) rfl)
theorem kw_948 : Cond.selects "ViewRounds" ⟨"ViewRounds", "noteDifferences", "(ILViewRounds$Rows;LViewRounds$Rows;)V"⟩ ⟨"ViewRounds", "noteDifferences", "(ILViewRounds$Rows;LViewRounds$Rows;)V"⟩ ∈ z_W := z_Win23 (List.mem_of_getElem? (i := 28) rfl)
theorem kw_949 : Cond.selects "ViewRounds" ⟨"ViewRounds", "keepForTakingBack", "()V"⟩ ⟨"ViewRounds", "keepForTakingBack", "()V"⟩ ∈ z_W := z_Win23 (List.mem_of_getElem? (i := 29) rfl)
theorem kw_950 : Cond.selects "ViewRounds$Engine" ⟨"ViewRounds$Engine", "solveFor", "(III)V"⟩ ⟨"ViewRounds$Engine", "solveFor", "(III)V"⟩ ∈ z_W := z_Win23 (List.mem_of_getElem? (i := 30) rfl)
theorem kw_951 : Cond.selects "ViewRounds" ⟨"ViewRounds", "viewsAreTheSame", "()Z"⟩ ⟨"ViewRounds", "viewsAreTheSame", "()Z"⟩ ∈ z_W := z_Win23 (List.mem_of_getElem? (i := 31) rfl)
theorem kw_952 : Cond.selects "ViewRoundsModel" ⟨"ViewRoundsModel", "forget", "()V"⟩ ⟨"ViewRoundsModel", "forget", "()V"⟩ ∈ z_W := z_Win23 (List.mem_of_getElem? (i := 32) rfl)
theorem kw_953 : Cond.selects "ViewRoundsModel" ⟨"ViewRoundsModel", "rule", "()V"⟩ ⟨"ViewRoundsModel", "rule", "()V"⟩ ∈ z_W := z_Win23 (List.mem_of_getElem? (i := 33) rfl)
theorem kw_954 : Cond.selects "ViewRoundsModel" ⟨"ViewRoundsModel", "sign", "()I"⟩ ⟨"ViewRoundsModel", "sign", "()I"⟩ ∈ z_W := z_Win23 (List.mem_of_getElem? (i := 34) rfl)
theorem kw_955 : Cond.selects "ViewRoundsModel" ⟨"ViewRoundsModel", "wrong", "(I)V"⟩ ⟨"ViewRoundsModel", "wrong", "(I)V"⟩ ∈ z_W := z_Win23 (List.mem_of_getElem? (i := 35) rfl)
theorem kw_956 : Cond.selects "ViewRoundsModel" ⟨"ViewRoundsModel", "relationAt", "()I"⟩ ⟨"ViewRoundsModel", "relationAt", "()I"⟩ ∈ z_W := z_Win23 (List.mem_of_getElem? (i := 36) rfl)
theorem kw_957 : Cond.selects "ViewRoundsModel" ⟨"ViewRoundsModel", "terms", "(II[IIZ)V"⟩ ⟨"ViewRoundsModel", "terms", "(II[IIZ)V"⟩ ∈ z_W := z_Win23 (List.mem_of_getElem? (i := 37) rfl)
theorem kw_958 : Cond.selects "ViewRoundsModel" ⟨"ViewRoundsModel", "take", "(I)V"⟩ ⟨"ViewRoundsModel", "take", "(I)V"⟩ ∈ z_W := z_Win23 (List.mem_of_getElem? (i := 38) rfl)
theorem kw_959 : Cond.selects "ViewRoundsModel" ⟨"ViewRoundsModel", "term", "(I)I"⟩ ⟨"ViewRoundsModel", "term", "(I)I"⟩ ∈ z_W := z_Win23 (List.mem_of_getElem? (i := 39) rfl)
theorem kw_960 : Cond.selects "ViewRoundsModel" ⟨"ViewRoundsModel", "literal", "(I)V"⟩ ⟨"ViewRoundsModel", "literal", "(I)V"⟩ ∈ z_W := z_Win24 (List.mem_of_getElem? (i := 0) rfl)
theorem kw_961 : Cond.selects "ViewRoundsModel" ⟨"ViewRoundsModel", "judge", "(I)V"⟩ ⟨"ViewRoundsModel", "judge", "(I)V"⟩ ∈ z_W := z_Win24 (List.mem_of_getElem? (i := 1) rfl)
theorem kw_962 : Cond.selects "ViewRoundsModel" ⟨"ViewRoundsModel", "reaches", "()V"⟩ ⟨"ViewRoundsModel", "reaches", "()V"⟩ ∈ z_W := z_Win24 (List.mem_of_getElem? (i := 2) rfl)
theorem kw_963 : Cond.selects "ViewRoundsModel" ⟨"ViewRoundsModel", "layers", "()Z"⟩ ⟨"ViewRoundsModel", "layers", "()Z"⟩ ∈ z_W := z_Win24 (List.mem_of_getElem? (i := 3) rfl)
theorem kw_964 : Cond.selects "ViewRoundsModel" ⟨"ViewRoundsModel", "isStrict", "(II)Z"⟩ ⟨"ViewRoundsModel", "isStrict", "(II)Z"⟩ ∈ z_W := z_Win24 (List.mem_of_getElem? (i := 4) rfl)
theorem kw_965 : Cond.selects "ViewRoundsModel" ⟨"ViewRoundsModel", "findRing", "()V"⟩ ⟨"ViewRoundsModel", "findRing", "()V"⟩ ∈ z_W := z_Win24 (List.mem_of_getElem? (i := 5) rfl)
theorem kw_966 : Cond.selects "ViewRoundsModel" ⟨"ViewRoundsModel", "isBadRing", "(I)Z"⟩ ⟨"ViewRoundsModel", "isBadRing", "(I)Z"⟩ ∈ z_W := z_Win24 (List.mem_of_getElem? (i := 6) rfl)
theorem kw_967 : Cond.selects "ViewRoundsModel" ⟨"ViewRoundsModel", "ringMany", "()V"⟩ ⟨"ViewRoundsModel", "ringMany", "()V"⟩ ∈ z_W := z_Win24 (List.mem_of_getElem? (i := 7) rfl)
theorem kw_968 : Cond.selects "ViewRoundsModel" ⟨"ViewRoundsModel", "work", "()Z"⟩ ⟨"ViewRoundsModel", "work", "()Z"⟩ ∈ z_W := z_Win24 (List.mem_of_getElem? (i := 8) rfl)
theorem kw_969 : Cond.selects "ViewRoundsModel" ⟨"ViewRoundsModel", "countRule", "(I)Z"⟩ ⟨"ViewRoundsModel", "countRule", "(I)Z"⟩ ∈ z_W := z_Win24 (List.mem_of_getElem? (i := 9) rfl)
theorem kw_970 : Cond.selects "ViewRoundsModel" ⟨"ViewRoundsModel", "markOf", "(I)I"⟩ ⟨"ViewRoundsModel", "markOf", "(I)I"⟩ ∈ z_W := z_Win24 (List.mem_of_getElem? (i := 10) rfl)
theorem kw_971 : Cond.selects "ViewRoundsModel" ⟨"ViewRoundsModel", "begin", "(I)V"⟩ ⟨"ViewRoundsModel", "begin", "(I)V"⟩ ∈ z_W := z_Win24 (List.mem_of_getElem? (i := 11) rfl)
theorem kw_972 : Cond.selects "ViewRoundsModel" ⟨"ViewRoundsModel", "next", "()Z"⟩ ⟨"ViewRoundsModel", "next", "()Z"⟩ ∈ z_W := z_Win24 (List.mem_of_getElem? (i := 12) rfl)
theorem kw_973 : Cond.selects "ViewRoundsModel" ⟨"ViewRoundsModel", "holds", "()Z"⟩ ⟨"ViewRoundsModel", "holds", "()Z"⟩ ∈ z_W := z_Win24 (List.mem_of_getElem? (i := 13) rfl)
theorem kw_974 : Cond.selects "ViewRoundsModel" ⟨"ViewRoundsModel", "valueOf", "(II)I"⟩ ⟨"ViewRoundsModel", "valueOf", "(II)I"⟩ ∈ z_W := z_Win24 (List.mem_of_getElem? (i := 14) rfl)
theorem kw_975 : Cond.selects "ViewRoundsModel" ⟨"ViewRoundsModel", "find", "(IIII)I"⟩ ⟨"ViewRoundsModel", "find", "(IIII)I"⟩ ∈ z_W := z_Win24 (List.mem_of_getElem? (i := 15) rfl)
theorem kw_976 : Cond.selects "ViewRoundsModel" ⟨"ViewRoundsModel", "compare", "(IIIII)I"⟩ ⟨"ViewRoundsModel", "compare", "(IIIII)I"⟩ ∈ z_W := z_Win24 (List.mem_of_getElem? (i := 16) rfl)
theorem kw_977 : Cond.selects "ViewRoundsModel" ⟨"ViewRoundsModel", "base", "(II)I"⟩ ⟨"ViewRoundsModel", "base", "(II)I"⟩ ∈ z_W := z_Win24 (List.mem_of_getElem? (i := 17) rfl)
theorem kw_978 : Cond.selects "ViewRoundsModel" ⟨"ViewRoundsModel", "fits", "(III)Z"⟩ ⟨"ViewRoundsModel", "fits", "(III)Z"⟩ ∈ z_W := z_Win24 (List.mem_of_getElem? (i := 18) rfl)
theorem kw_979 : Cond.selects "ViewRoundsModel" ⟨"ViewRoundsModel", "headValue", "(I)I"⟩ ⟨"ViewRoundsModel", "headValue", "(I)I"⟩ ∈ z_W := z_Win24 (List.mem_of_getElem? (i := 19) rfl)
theorem kw_980 : Cond.selects "ViewRoundsModel" ⟨"ViewRoundsModel", "insert", "(IIIII)Z"⟩ ⟨"ViewRoundsModel", "insert", "(IIIII)Z"⟩ ∈ z_W := z_Win24 (List.mem_of_getElem? (i := 20) rfl)
theorem kw_981 : Cond.selects "ViewRoundsModel" ⟨"ViewRoundsModel", "move", "(III)V"⟩ ⟨"ViewRoundsModel", "move", "(III)V"⟩ ∈ z_W := z_Win24 (List.mem_of_getElem? (i := 21) rfl)
theorem kw_982 : Cond.selects "ViewRoundsModel" ⟨"ViewRoundsModel", "plainRule", "(I)I"⟩ ⟨"ViewRoundsModel", "plainRule", "(I)I"⟩ ∈ z_W := z_Win24 (List.mem_of_getElem? (i := 22) rfl)
theorem kw_983 : Cond.selects "ViewRoundsModel" ⟨"ViewRoundsModel", "isRelation", "(I)Z"⟩ ⟨"ViewRoundsModel", "isRelation", "(I)Z"⟩ ∈ z_W := z_Win24 (List.mem_of_getElem? (i := 23) rfl)
theorem kw_984 : Cond.selects "ViewRoundsModel" ⟨"ViewRoundsModel", "areValues", "(IIII)Z"⟩ ⟨"ViewRoundsModel", "areValues", "(IIII)Z"⟩ ∈ z_W := z_Win24 (List.mem_of_getElem? (i := 24) rfl)
theorem kw_985 : Cond.selects "ViewRoundsModel" ⟨"ViewRoundsModel", "given", "(III)I"⟩ ⟨"ViewRoundsModel", "given", "(III)I"⟩ ∈ z_W := z_Win24 (List.mem_of_getElem? (i := 25) rfl)
theorem kw_986 : Cond.selects "ViewRoundsModel" ⟨"ViewRoundsModel", "sum", "([IIII)V"⟩ ⟨"ViewRoundsModel", "sum", "([IIII)V"⟩ ∈ z_W := z_Win24 (List.mem_of_getElem? (i := 26) rfl)
theorem kw_987 : Cond.selects "ViewRoundsModel" ⟨"ViewRoundsModel", "apply", "()I"⟩ ⟨"ViewRoundsModel", "apply", "()I"⟩ ∈ z_W := z_Win24 (List.mem_of_getElem? (i := 27) rfl)
theorem kw_988 : Cond.selects "ViewRoundsModel" ⟨"ViewRoundsModel", "keep", "()V"⟩ ⟨"ViewRoundsModel", "keep", "()V"⟩ ∈ z_W := z_Win24 (List.mem_of_getElem? (i := 28) rfl)
theorem kw_989 : Cond.selects "ViewRoundsModel" ⟨"ViewRoundsModel", "remove", "(II)V"⟩ ⟨"ViewRoundsModel", "remove", "(II)V"⟩ ∈ z_W := z_Win24 (List.mem_of_getElem? (i := 29) rfl)
theorem kw_990 : Cond.selects "ViewRoundsModel" ⟨"ViewRoundsModel", "back", "()V"⟩ ⟨"ViewRoundsModel", "back", "()V"⟩ ∈ z_W := z_Win24 (List.mem_of_getElem? (i := 30) rfl)
theorem kw_991 : Cond.selects "ViewRoundsModel" ⟨"ViewRoundsModel", "compareAll", "()V"⟩ ⟨"ViewRoundsModel", "compareAll", "()V"⟩ ∈ z_W := z_Win24 (List.mem_of_getElem? (i := 31) rfl)
theorem kw_992 : Cond.selects "ViewRoundsModel" ⟨"ViewRoundsModel", "differ", "(IIIII)V"⟩ ⟨"ViewRoundsModel", "differ", "(IIIII)V"⟩ ∈ z_W := z_Win24 (List.mem_of_getElem? (i := 32) rfl)
theorem kw_993 : Cond.selects "ViewRoundsModel" ⟨"ViewRoundsModel", "isCounted", "(I)Z"⟩ ⟨"ViewRoundsModel", "isCounted", "(I)Z"⟩ ∈ z_W := z_Win24 (List.mem_of_getElem? (i := 33) rfl)
theorem kw_994 : Cond.selects "ViewRoundsModel" ⟨"ViewRoundsModel", "leads", "(III)Z"⟩ ⟨"ViewRoundsModel", "leads", "(III)Z"⟩ ∈ z_W := z_Win24 (List.mem_of_getElem? (i := 34) rfl)
theorem kw_995 : Cond.selects "ViewRoundsModel" ⟨"ViewRoundsModel", "isLess", "()Z"⟩ ⟨"ViewRoundsModel", "isLess", "()Z"⟩ ∈ z_W := z_Win24 (List.mem_of_getElem? (i := 35) rfl)
theorem kw_996 : Cond.selects "ViewRoundsModel" ⟨"ViewRoundsModel", "tell", "(II)I"⟩ ⟨"ViewRoundsModel", "tell", "(II)I"⟩ ∈ z_W := z_Win24 (List.mem_of_getElem? (i := 36) rfl)
def z_nw : List Cond := [.methodLinkNest "ViewRounds" 23 ⟨"ViewRounds$Program", "<init>", "()V"⟩ "ViewRounds", .methodLinkNest "ViewRounds" 55 ⟨"ViewRounds$Engine", "<init>", "()V"⟩ "ViewRounds", .methodLinkNest "ViewRounds$Engine" 26 ⟨"ViewRounds$Program", "<init>", "()V"⟩ "ViewRounds", .methodLinkNest "ViewRounds$Engine" 33 ⟨"ViewRounds$Rule", "<init>", "()V"⟩ "ViewRounds", .methodLinkNest "ViewRounds$Rule" 11 ⟨"ViewRounds$Atom", "<init>", "()V"⟩ "ViewRounds", .methodLinkNest "ViewRounds" 60 ⟨"ViewRounds$Rows", "<init>", "()V"⟩ "ViewRounds", .methodLinkNest "ViewRounds$Reader" 11 ⟨"ViewRounds$Program", "<init>", "()V"⟩ "ViewRounds", .methodLinkNest "ViewRounds$Reader" 24 ⟨"ViewRounds$Rule", "<init>", "()V"⟩ "ViewRounds", .methodLinkNest "ViewRounds$Rule" 35 ⟨"ViewRounds", "isIn", "(II)Z"⟩ "ViewRounds", .methodLinkNest "ViewRounds$Program" 41 ⟨"ViewRounds", "isIn", "(II)Z"⟩ "ViewRounds", .methodLinkNest "ViewRounds$Reader" 111 ⟨"ViewRounds$Atom", "<init>", "()V"⟩ "ViewRounds", .methodLinkNest "ViewRounds$Engine" 151 ⟨"ViewRounds", "weight", "(I)I"⟩ "ViewRounds", .methodLinkNest "ViewRounds$Engine" 192 ⟨"ViewRounds", "isIn", "(II)Z"⟩ "ViewRounds", .methodLinkNest "ViewRounds$Engine" 196 ⟨"ViewRounds", "valueAt", "(II)I"⟩ "ViewRounds", .arrayOver (.object "ViewRounds$Rule"), .arrayOver (.object "ViewRounds$Rows"), .arrayOver (.object "ViewRounds$SignedRows"), .arrayOver (.object "ViewRounds$Atom")]
theorem z_nwN : ∀ w ∈ z_nw, z_isN w = true := by decide +kernel
theorem kq_0 : Cond.methodLinkNest "ViewRounds" 23 ⟨"ViewRounds$Program", "<init>", "()V"⟩ "ViewRounds" ∈ z_nw := List.mem_of_getElem? (i := 0) rfl
theorem kq_1 : Cond.methodLinkNest "ViewRounds" 55 ⟨"ViewRounds$Engine", "<init>", "()V"⟩ "ViewRounds" ∈ z_nw := List.mem_of_getElem? (i := 1) rfl
theorem kq_2 : Cond.methodLinkNest "ViewRounds$Engine" 26 ⟨"ViewRounds$Program", "<init>", "()V"⟩ "ViewRounds" ∈ z_nw := List.mem_of_getElem? (i := 2) rfl
theorem kq_3 : Cond.methodLinkNest "ViewRounds$Engine" 33 ⟨"ViewRounds$Rule", "<init>", "()V"⟩ "ViewRounds" ∈ z_nw := List.mem_of_getElem? (i := 3) rfl
theorem kq_4 : Cond.methodLinkNest "ViewRounds$Rule" 11 ⟨"ViewRounds$Atom", "<init>", "()V"⟩ "ViewRounds" ∈ z_nw := List.mem_of_getElem? (i := 4) rfl
theorem kq_5 : Cond.methodLinkNest "ViewRounds" 60 ⟨"ViewRounds$Rows", "<init>", "()V"⟩ "ViewRounds" ∈ z_nw := List.mem_of_getElem? (i := 5) rfl
theorem kq_6 : Cond.methodLinkNest "ViewRounds$Reader" 11 ⟨"ViewRounds$Program", "<init>", "()V"⟩ "ViewRounds" ∈ z_nw := List.mem_of_getElem? (i := 6) rfl
theorem kq_7 : Cond.methodLinkNest "ViewRounds$Reader" 24 ⟨"ViewRounds$Rule", "<init>", "()V"⟩ "ViewRounds" ∈ z_nw := List.mem_of_getElem? (i := 7) rfl
theorem kq_8 : Cond.methodLinkNest "ViewRounds$Rule" 35 ⟨"ViewRounds", "isIn", "(II)Z"⟩ "ViewRounds" ∈ z_nw := List.mem_of_getElem? (i := 8) rfl
theorem kq_9 : Cond.methodLinkNest "ViewRounds$Program" 41 ⟨"ViewRounds", "isIn", "(II)Z"⟩ "ViewRounds" ∈ z_nw := List.mem_of_getElem? (i := 9) rfl
theorem kq_10 : Cond.methodLinkNest "ViewRounds$Reader" 111 ⟨"ViewRounds$Atom", "<init>", "()V"⟩ "ViewRounds" ∈ z_nw := List.mem_of_getElem? (i := 10) rfl
theorem kq_11 : Cond.methodLinkNest "ViewRounds$Engine" 151 ⟨"ViewRounds", "weight", "(I)I"⟩ "ViewRounds" ∈ z_nw := List.mem_of_getElem? (i := 11) rfl
theorem kq_12 : Cond.methodLinkNest "ViewRounds$Engine" 192 ⟨"ViewRounds", "isIn", "(II)Z"⟩ "ViewRounds" ∈ z_nw := List.mem_of_getElem? (i := 12) rfl
theorem kq_13 : Cond.methodLinkNest "ViewRounds$Engine" 196 ⟨"ViewRounds", "valueAt", "(II)I"⟩ "ViewRounds" ∈ z_nw := List.mem_of_getElem? (i := 13) rfl
theorem kq_14 : Cond.arrayOver (.object "ViewRounds$Rule") ∈ z_nw := List.mem_of_getElem? (i := 14) rfl
theorem kq_15 : Cond.arrayOver (.object "ViewRounds$Rows") ∈ z_nw := List.mem_of_getElem? (i := 15) rfl
theorem kq_16 : Cond.arrayOver (.object "ViewRounds$SignedRows") ∈ z_nw := List.mem_of_getElem? (i := 16) rfl
theorem kq_17 : Cond.arrayOver (.object "ViewRounds$Atom") ∈ z_nw := List.mem_of_getElem? (i := 17) rfl
abbrev kR_At : String := "ViewRounds$Atom"
def kT_At : u_T := fun k => match k with
  | 0 => ("ViewRounds$Atom", "terms", "[I", true)
  | 1 => ("ViewRounds$Atom", "size", "I", false)
  | 2 => ("ViewRounds$Atom", "kind", "I", false)
  | 3 => ("ViewRounds$Atom", "relation", "I", false)
  | 4 => ("ViewRounds$Atom", "operator", "I", false)
  | _ => ("ViewRounds$Atom", "letters", "I", false)
def ky_At : Nat → FieldType := fun k => match k with
  | 0 => .array .int
  | 1 => .int
  | 2 => .int
  | 3 => .int
  | 4 => .int
  | _ => .int
theorem kn_At : ∀ a, a < 6 → ∀ b, b < 6 → a ≠ b → (kT_At a).2.1 ≠ (kT_At b).2.1 := by decide +kernel
theorem kyo_At : ∀ k, k < 6 → parseFieldDescriptor (kT_At k).2.2.1 = some (ky_At k) := by decide +kernel
theorem kj_At : ∀ w ∈ u_ws kR_At kT_At 6, w ∈ z_W := show ∀ w ∈ ([.laysFinal "ViewRounds$Atom" "ViewRounds$Atom" "terms" "[I", .lays "ViewRounds$Atom" "ViewRounds$Atom" "size" "I", .lays "ViewRounds$Atom" "ViewRounds$Atom" "kind" "I", .lays "ViewRounds$Atom" "ViewRounds$Atom" "relation" "I", .lays "ViewRounds$Atom" "ViewRounds$Atom" "operator" "I", .lays "ViewRounds$Atom" "ViewRounds$Atom" "letters" "I"] : List Cond), w ∈ z_W from List.forall_mem_cons.mpr ⟨kw_120, List.forall_mem_cons.mpr ⟨kw_121, List.forall_mem_cons.mpr ⟨kw_122, List.forall_mem_cons.mpr ⟨kw_123, List.forall_mem_cons.mpr ⟨kw_124, List.forall_mem_cons.mpr ⟨kw_125, fun _ h => absurd h List.not_mem_nil⟩⟩⟩⟩⟩⟩
theorem ki_At {c0 : Cond} : ∀ w ∈ u_ws kR_At kT_At 6, w ∈ c0 :: z_W := fun w h => List.mem_cons_of_mem _ (kj_At w h)
abbrev kR_En : String := "ViewRounds$Engine"
def kT_En : u_T := fun k => match k with
  | 0 => ("ViewRounds$Engine", "least", "[I", true)
  | 1 => ("ViewRounds$Engine", "values", "[I", true)
  | 2 => ("ViewRounds$Engine", "queuedViews", "[I", true)
  | 3 => ("ViewRounds$Engine", "queuedKeys", "[I", true)
  | 4 => ("ViewRounds$Engine", "queued", "I", false)
  | 5 => ("ViewRounds$Engine", "known", "I", false)
  | 6 => ("ViewRounds$Engine", "goal", "I", false)
  | 7 => ("ViewRounds$Engine", "number", "I", false)
  | 8 => ("ViewRounds$Engine", "full", "Z", false)
  | 9 => ("ViewRounds$Engine", "program", "LViewRounds$Program;", false)
  | 10 => ("ViewRounds$Engine", "rule", "LViewRounds$Rule;", false)
  | _ => ("ViewRounds$Engine", "rows", "[LViewRounds$Rows;", false)
def ky_En : Nat → FieldType := fun k => match k with
  | 0 => .array .int
  | 1 => .array .int
  | 2 => .array .int
  | 3 => .array .int
  | 4 => .int
  | 5 => .int
  | 6 => .int
  | 7 => .int
  | 8 => .boolean
  | 9 => .object "ViewRounds$Program"
  | 10 => .object "ViewRounds$Rule"
  | _ => .array (.object "ViewRounds$Rows")
theorem kn_En : ∀ a, a < 12 → ∀ b, b < 12 → a ≠ b → (kT_En a).2.1 ≠ (kT_En b).2.1 := by decide +kernel
theorem kyo_En : ∀ k, k < 12 → parseFieldDescriptor (kT_En k).2.2.1 = some (ky_En k) := by decide +kernel
theorem kj_En : ∀ w ∈ u_ws kR_En kT_En 12, w ∈ z_W := show ∀ w ∈ ([.laysFinal "ViewRounds$Engine" "ViewRounds$Engine" "least" "[I", .laysFinal "ViewRounds$Engine" "ViewRounds$Engine" "values" "[I", .laysFinal "ViewRounds$Engine" "ViewRounds$Engine" "queuedViews" "[I", .laysFinal "ViewRounds$Engine" "ViewRounds$Engine" "queuedKeys" "[I", .lays "ViewRounds$Engine" "ViewRounds$Engine" "queued" "I", .lays "ViewRounds$Engine" "ViewRounds$Engine" "known" "I", .lays "ViewRounds$Engine" "ViewRounds$Engine" "goal" "I", .lays "ViewRounds$Engine" "ViewRounds$Engine" "number" "I", .lays "ViewRounds$Engine" "ViewRounds$Engine" "full" "Z", .lays "ViewRounds$Engine" "ViewRounds$Engine" "program" "LViewRounds$Program;", .lays "ViewRounds$Engine" "ViewRounds$Engine" "rule" "LViewRounds$Rule;", .lays "ViewRounds$Engine" "ViewRounds$Engine" "rows" "[LViewRounds$Rows;"] : List Cond), w ∈ z_W from List.forall_mem_cons.mpr ⟨kw_167, List.forall_mem_cons.mpr ⟨kw_168, List.forall_mem_cons.mpr ⟨kw_169, List.forall_mem_cons.mpr ⟨kw_170, List.forall_mem_cons.mpr ⟨kw_171, List.forall_mem_cons.mpr ⟨kw_172, List.forall_mem_cons.mpr ⟨kw_173, List.forall_mem_cons.mpr ⟨kw_174, List.forall_mem_cons.mpr ⟨kw_175, List.forall_mem_cons.mpr ⟨kw_176, List.forall_mem_cons.mpr ⟨kw_177, List.forall_mem_cons.mpr ⟨kw_178, fun _ h => absurd h List.not_mem_nil⟩⟩⟩⟩⟩⟩⟩⟩⟩⟩⟩⟩
theorem ki_En {c0 : Cond} : ∀ w ∈ u_ws kR_En kT_En 12, w ∈ c0 :: z_W := fun w h => List.mem_cons_of_mem _ (kj_En w h)
abbrev kR_Pr : String := "ViewRounds$Program"
def kT_Pr : u_T := fun k => match k with
  | 0 => ("ViewRounds$Program", "rules", "[LViewRounds$Rule;", true)
  | 1 => ("ViewRounds$Program", "ruleCount", "I", false)
  | 2 => ("ViewRounds$Program", "names", "[I", true)
  | 3 => ("ViewRounds$Program", "terms", "[I", true)
  | 4 => ("ViewRounds$Program", "layers", "[I", true)
  | 5 => ("ViewRounds$Program", "reach", "[I", true)
  | 6 => ("ViewRounds$Program", "relations", "I", false)
  | 7 => ("ViewRounds$Program", "topLayer", "I", false)
  | 8 => ("ViewRounds$Program", "ring", "I", false)
  | 9 => ("ViewRounds$Program", "views", "I", false)
  | _ => ("ViewRounds$Program", "countedViews", "I", false)
def ky_Pr : Nat → FieldType := fun k => match k with
  | 0 => .array (.object "ViewRounds$Rule")
  | 1 => .int
  | 2 => .array .int
  | 3 => .array .int
  | 4 => .array .int
  | 5 => .array .int
  | 6 => .int
  | 7 => .int
  | 8 => .int
  | 9 => .int
  | _ => .int
theorem kn_Pr : ∀ a, a < 11 → ∀ b, b < 11 → a ≠ b → (kT_Pr a).2.1 ≠ (kT_Pr b).2.1 := by decide +kernel
theorem kyo_Pr : ∀ k, k < 11 → parseFieldDescriptor (kT_Pr k).2.2.1 = some (ky_Pr k) := by decide +kernel
theorem kj_Pr : ∀ w ∈ u_ws kR_Pr kT_Pr 11, w ∈ z_W := show ∀ w ∈ ([.laysFinal "ViewRounds$Program" "ViewRounds$Program" "rules" "[LViewRounds$Rule;", .lays "ViewRounds$Program" "ViewRounds$Program" "ruleCount" "I", .laysFinal "ViewRounds$Program" "ViewRounds$Program" "names" "[I", .laysFinal "ViewRounds$Program" "ViewRounds$Program" "terms" "[I", .laysFinal "ViewRounds$Program" "ViewRounds$Program" "layers" "[I", .laysFinal "ViewRounds$Program" "ViewRounds$Program" "reach" "[I", .lays "ViewRounds$Program" "ViewRounds$Program" "relations" "I", .lays "ViewRounds$Program" "ViewRounds$Program" "topLayer" "I", .lays "ViewRounds$Program" "ViewRounds$Program" "ring" "I", .lays "ViewRounds$Program" "ViewRounds$Program" "views" "I", .lays "ViewRounds$Program" "ViewRounds$Program" "countedViews" "I"] : List Cond), w ∈ z_W from List.forall_mem_cons.mpr ⟨kw_52, List.forall_mem_cons.mpr ⟨kw_53, List.forall_mem_cons.mpr ⟨kw_54, List.forall_mem_cons.mpr ⟨kw_55, List.forall_mem_cons.mpr ⟨kw_56, List.forall_mem_cons.mpr ⟨kw_57, List.forall_mem_cons.mpr ⟨kw_58, List.forall_mem_cons.mpr ⟨kw_59, List.forall_mem_cons.mpr ⟨kw_60, List.forall_mem_cons.mpr ⟨kw_61, List.forall_mem_cons.mpr ⟨kw_62, fun _ h => absurd h List.not_mem_nil⟩⟩⟩⟩⟩⟩⟩⟩⟩⟩⟩
theorem ki_Pr {c0 : Cond} : ∀ w ∈ u_ws kR_Pr kT_Pr 11, w ∈ c0 :: z_W := fun w h => List.mem_cons_of_mem _ (kj_Pr w h)
abbrev kR_Re : String := "ViewRounds$Reader"
def kT_Re : u_T := fun k => match k with
  | 0 => ("ViewRounds$Reader", "program", "LViewRounds$Program;", true)
  | 1 => ("ViewRounds$Reader", "fault", "I", false)
  | 2 => ("ViewRounds$Reader", "faultPlace", "I", false)
  | 3 => ("ViewRounds$Reader", "text", "[B", true)
  | 4 => ("ViewRounds$Reader", "length", "I", true)
  | 5 => ("ViewRounds$Reader", "at", "I", false)
  | _ => ("ViewRounds$Reader", "rule", "LViewRounds$Rule;", false)
def ky_Re : Nat → FieldType := fun k => match k with
  | 0 => .object "ViewRounds$Program"
  | 1 => .int
  | 2 => .int
  | 3 => .array .byte
  | 4 => .int
  | 5 => .int
  | _ => .object "ViewRounds$Rule"
theorem kn_Re : ∀ a, a < 7 → ∀ b, b < 7 → a ≠ b → (kT_Re a).2.1 ≠ (kT_Re b).2.1 := by decide +kernel
theorem kyo_Re : ∀ k, k < 7 → parseFieldDescriptor (kT_Re k).2.2.1 = some (ky_Re k) := by decide +kernel
theorem kj_Re : ∀ w ∈ u_ws kR_Re kT_Re 7, w ∈ z_W := show ∀ w ∈ ([.laysFinal "ViewRounds$Reader" "ViewRounds$Reader" "program" "LViewRounds$Program;", .lays "ViewRounds$Reader" "ViewRounds$Reader" "fault" "I", .lays "ViewRounds$Reader" "ViewRounds$Reader" "faultPlace" "I", .laysFinal "ViewRounds$Reader" "ViewRounds$Reader" "text" "[B", .laysFinal "ViewRounds$Reader" "ViewRounds$Reader" "length" "I", .lays "ViewRounds$Reader" "ViewRounds$Reader" "at" "I", .lays "ViewRounds$Reader" "ViewRounds$Reader" "rule" "LViewRounds$Rule;"] : List Cond), w ∈ z_W from List.forall_mem_cons.mpr ⟨kw_250, List.forall_mem_cons.mpr ⟨kw_251, List.forall_mem_cons.mpr ⟨kw_252, List.forall_mem_cons.mpr ⟨kw_253, List.forall_mem_cons.mpr ⟨kw_254, List.forall_mem_cons.mpr ⟨kw_255, List.forall_mem_cons.mpr ⟨kw_256, fun _ h => absurd h List.not_mem_nil⟩⟩⟩⟩⟩⟩⟩
theorem ki_Re {c0 : Cond} : ∀ w ∈ u_ws kR_Re kT_Re 7, w ∈ c0 :: z_W := fun w h => List.mem_cons_of_mem _ (kj_Re w h)
abbrev kR_Ro : String := "ViewRounds$Rows"
def kT_Ro : u_T := fun k => match k with
  | 0 => ("ViewRounds$Rows", "keys", "[I", true)
  | 1 => ("ViewRounds$Rows", "counts", "[I", true)
  | _ => ("ViewRounds$Rows", "size", "I", false)
def ky_Ro : Nat → FieldType := fun k => match k with
  | 0 => .array .int
  | 1 => .array .int
  | _ => .int
theorem kn_Ro : ∀ a, a < 3 → ∀ b, b < 3 → a ≠ b → (kT_Ro a).2.1 ≠ (kT_Ro b).2.1 := by decide +kernel
theorem kyo_Ro : ∀ k, k < 3 → parseFieldDescriptor (kT_Ro k).2.2.1 = some (ky_Ro k) := by decide +kernel
theorem kj_Ro : ∀ w ∈ u_ws kR_Ro kT_Ro 3, w ∈ z_W := show ∀ w ∈ ([.laysFinal "ViewRounds$Rows" "ViewRounds$Rows" "keys" "[I", .laysFinal "ViewRounds$Rows" "ViewRounds$Rows" "counts" "[I", .lays "ViewRounds$Rows" "ViewRounds$Rows" "size" "I"] : List Cond), w ∈ z_W from List.forall_mem_cons.mpr ⟨kw_192, List.forall_mem_cons.mpr ⟨kw_193, List.forall_mem_cons.mpr ⟨kw_194, fun _ h => absurd h List.not_mem_nil⟩⟩⟩
theorem ki_Ro {c0 : Cond} : ∀ w ∈ u_ws kR_Ro kT_Ro 3, w ∈ c0 :: z_W := fun w h => List.mem_cons_of_mem _ (kj_Ro w h)
abbrev kR_Ru : String := "ViewRounds$Rule"
def kT_Ru : u_T := fun k => match k with
  | 0 => ("ViewRounds$Rule", "head", "LViewRounds$Atom;", true)
  | 1 => ("ViewRounds$Rule", "body", "[LViewRounds$Atom;", true)
  | 2 => ("ViewRounds$Rule", "size", "I", false)
  | 3 => ("ViewRounds$Rule", "positive", "I", false)
  | 4 => ("ViewRounds$Rule", "counted", "Z", false)
  | 5 => ("ViewRounds$Rule", "letters", "I", false)
  | _ => ("ViewRounds$Rule", "variables", "I", false)
def ky_Ru : Nat → FieldType := fun k => match k with
  | 0 => .object "ViewRounds$Atom"
  | 1 => .array (.object "ViewRounds$Atom")
  | 2 => .int
  | 3 => .int
  | 4 => .boolean
  | 5 => .int
  | _ => .int
theorem kn_Ru : ∀ a, a < 7 → ∀ b, b < 7 → a ≠ b → (kT_Ru a).2.1 ≠ (kT_Ru b).2.1 := by decide +kernel
theorem kyo_Ru : ∀ k, k < 7 → parseFieldDescriptor (kT_Ru k).2.2.1 = some (ky_Ru k) := by decide +kernel
theorem kj_Ru : ∀ w ∈ u_ws kR_Ru kT_Ru 7, w ∈ z_W := show ∀ w ∈ ([.laysFinal "ViewRounds$Rule" "ViewRounds$Rule" "head" "LViewRounds$Atom;", .laysFinal "ViewRounds$Rule" "ViewRounds$Rule" "body" "[LViewRounds$Atom;", .lays "ViewRounds$Rule" "ViewRounds$Rule" "size" "I", .lays "ViewRounds$Rule" "ViewRounds$Rule" "positive" "I", .lays "ViewRounds$Rule" "ViewRounds$Rule" "counted" "Z", .lays "ViewRounds$Rule" "ViewRounds$Rule" "letters" "I", .lays "ViewRounds$Rule" "ViewRounds$Rule" "variables" "I"] : List Cond), w ∈ z_W from List.forall_mem_cons.mpr ⟨kw_146, List.forall_mem_cons.mpr ⟨kw_147, List.forall_mem_cons.mpr ⟨kw_148, List.forall_mem_cons.mpr ⟨kw_149, List.forall_mem_cons.mpr ⟨kw_150, List.forall_mem_cons.mpr ⟨kw_151, List.forall_mem_cons.mpr ⟨kw_152, fun _ h => absurd h List.not_mem_nil⟩⟩⟩⟩⟩⟩⟩
theorem ki_Ru {c0 : Cond} : ∀ w ∈ u_ws kR_Ru kT_Ru 7, w ∈ c0 :: z_W := fun w h => List.mem_cons_of_mem _ (kj_Ru w h)
abbrev kR_Si : String := "ViewRounds$SignedRows"
def kT_Si : u_T := fun k => match k with
  | 0 => ("ViewRounds$SignedRows", "relations", "[I", true)
  | 1 => ("ViewRounds$SignedRows", "keys", "[I", true)
  | 2 => ("ViewRounds$SignedRows", "signs", "[I", true)
  | _ => ("ViewRounds$SignedRows", "size", "I", false)
def ky_Si : Nat → FieldType := fun k => match k with
  | 0 => .array .int
  | 1 => .array .int
  | 2 => .array .int
  | _ => .int
theorem kn_Si : ∀ a, a < 4 → ∀ b, b < 4 → a ≠ b → (kT_Si a).2.1 ≠ (kT_Si b).2.1 := by decide +kernel
theorem kyo_Si : ∀ k, k < 4 → parseFieldDescriptor (kT_Si k).2.2.1 = some (ky_Si k) := by decide +kernel
theorem kj_Si : ∀ w ∈ u_ws kR_Si kT_Si 4, w ∈ z_W := show ∀ w ∈ ([.laysFinal "ViewRounds$SignedRows" "ViewRounds$SignedRows" "relations" "[I", .laysFinal "ViewRounds$SignedRows" "ViewRounds$SignedRows" "keys" "[I", .laysFinal "ViewRounds$SignedRows" "ViewRounds$SignedRows" "signs" "[I", .lays "ViewRounds$SignedRows" "ViewRounds$SignedRows" "size" "I"] : List Cond), w ∈ z_W from List.forall_mem_cons.mpr ⟨kw_83, List.forall_mem_cons.mpr ⟨kw_84, List.forall_mem_cons.mpr ⟨kw_85, List.forall_mem_cons.mpr ⟨kw_86, fun _ h => absurd h List.not_mem_nil⟩⟩⟩⟩
theorem ki_Si {c0 : Cond} : ∀ w ∈ u_ws kR_Si kT_Si 4, w ∈ c0 :: z_W := fun w h => List.mem_cons_of_mem _ (kj_Si w h)
abbrev kR_Vr : String := "ViewRounds"
def kT_Vr : u_T := fun k => match k with
  | 0 => ("ViewRounds", "text", "[B", true)
  | 1 => ("ViewRounds", "length", "I", false)
  | 2 => ("ViewRounds", "faultPlace", "I", false)
  | 3 => ("ViewRounds", "ringNames", "[I", true)
  | 4 => ("ViewRounds", "ringSize", "I", false)
  | 5 => ("ViewRounds", "program", "LViewRounds$Program;", false)
  | 6 => ("ViewRounds", "now", "[LViewRounds$Rows;", false)
  | 7 => ("ViewRounds", "next", "[LViewRounds$Rows;", false)
  | 8 => ("ViewRounds", "underWay", "LViewRounds$SignedRows;", false)
  | 9 => ("ViewRounds", "done", "[LViewRounds$SignedRows;", true)
  | 10 => ("ViewRounds", "doneSize", "I", false)
  | 11 => ("ViewRounds", "latest", "LViewRounds$SignedRows;", true)
  | _ => ("ViewRounds", "engine", "LViewRounds$Engine;", true)
def ky_Vr : Nat → FieldType := fun k => match k with
  | 0 => .array .byte
  | 1 => .int
  | 2 => .int
  | 3 => .array .int
  | 4 => .int
  | 5 => .object "ViewRounds$Program"
  | 6 => .array (.object "ViewRounds$Rows")
  | 7 => .array (.object "ViewRounds$Rows")
  | 8 => .object "ViewRounds$SignedRows"
  | 9 => .array (.object "ViewRounds$SignedRows")
  | 10 => .int
  | 11 => .object "ViewRounds$SignedRows"
  | _ => .object "ViewRounds$Engine"
theorem kn_Vr : ∀ a, a < 13 → ∀ b, b < 13 → a ≠ b → (kT_Vr a).2.1 ≠ (kT_Vr b).2.1 := by decide +kernel
theorem kyo_Vr : ∀ k, k < 13 → parseFieldDescriptor (kT_Vr k).2.2.1 = some (ky_Vr k) := by decide +kernel
theorem kj_Vr : ∀ w ∈ u_ws kR_Vr kT_Vr 13, w ∈ z_W := show ∀ w ∈ ([.laysFinal "ViewRounds" "ViewRounds" "text" "[B", .lays "ViewRounds" "ViewRounds" "length" "I", .lays "ViewRounds" "ViewRounds" "faultPlace" "I", .laysFinal "ViewRounds" "ViewRounds" "ringNames" "[I", .lays "ViewRounds" "ViewRounds" "ringSize" "I", .lays "ViewRounds" "ViewRounds" "program" "LViewRounds$Program;", .lays "ViewRounds" "ViewRounds" "now" "[LViewRounds$Rows;", .lays "ViewRounds" "ViewRounds" "next" "[LViewRounds$Rows;", .lays "ViewRounds" "ViewRounds" "underWay" "LViewRounds$SignedRows;", .laysFinal "ViewRounds" "ViewRounds" "done" "[LViewRounds$SignedRows;", .lays "ViewRounds" "ViewRounds" "doneSize" "I", .laysFinal "ViewRounds" "ViewRounds" "latest" "LViewRounds$SignedRows;", .laysFinal "ViewRounds" "ViewRounds" "engine" "LViewRounds$Engine;"] : List Cond), w ∈ z_W from List.forall_mem_cons.mpr ⟨kw_208, List.forall_mem_cons.mpr ⟨kw_209, List.forall_mem_cons.mpr ⟨kw_210, List.forall_mem_cons.mpr ⟨kw_211, List.forall_mem_cons.mpr ⟨kw_212, List.forall_mem_cons.mpr ⟨kw_213, List.forall_mem_cons.mpr ⟨kw_214, List.forall_mem_cons.mpr ⟨kw_215, List.forall_mem_cons.mpr ⟨kw_216, List.forall_mem_cons.mpr ⟨kw_217, List.forall_mem_cons.mpr ⟨kw_218, List.forall_mem_cons.mpr ⟨kw_219, List.forall_mem_cons.mpr ⟨kw_220, fun _ h => absurd h List.not_mem_nil⟩⟩⟩⟩⟩⟩⟩⟩⟩⟩⟩⟩⟩
theorem ki_Vr {c0 : Cond} : ∀ w ∈ u_ws kR_Vr kT_Vr 13, w ∈ c0 :: z_W := fun w h => List.mem_cons_of_mem _ (kj_Vr w h)
abbrev kR_Mo : String := "ViewRoundsModel"
def kT_Mo : u_T := fun k => match k with
  | 0 => ("ViewRoundsModel", "text", "[B", true)
  | 1 => ("ViewRoundsModel", "size", "I", false)
  | 2 => ("ViewRoundsModel", "signs", "[I", true)
  | 3 => ("ViewRoundsModel", "places", "[I", true)
  | 4 => ("ViewRoundsModel", "many", "I", false)
  | 5 => ("ViewRoundsModel", "at", "I", false)
  | 6 => ("ViewRoundsModel", "fault", "I", false)
  | 7 => ("ViewRoundsModel", "place", "I", false)
  | 8 => ("ViewRoundsModel", "rules", "I", false)
  | 9 => ("ViewRoundsModel", "head", "[I", true)
  | 10 => ("ViewRoundsModel", "headTerms", "[I", true)
  | 11 => ("ViewRoundsModel", "literals", "[I", true)
  | 12 => ("ViewRoundsModel", "kinds", "[I", true)
  | 13 => ("ViewRoundsModel", "relations", "[I", true)
  | 14 => ("ViewRoundsModel", "terms", "[I", true)
  | 15 => ("ViewRoundsModel", "counting", "[Z", true)
  | 16 => ("ViewRoundsModel", "letters", "[I", true)
  | 17 => ("ViewRoundsModel", "known", "I", false)
  | 18 => ("ViewRoundsModel", "names", "[I", true)
  | 19 => ("ViewRoundsModel", "arity", "[I", true)
  | 20 => ("ViewRoundsModel", "view", "[Z", true)
  | 21 => ("ViewRoundsModel", "layer", "[I", true)
  | 22 => ("ViewRoundsModel", "reach", "[Z", true)
  | 23 => ("ViewRoundsModel", "onRing", "[Z", true)
  | 24 => ("ViewRoundsModel", "values", "[I", true)
  | 25 => ("ViewRoundsModel", "counts", "[I", true)
  | 26 => ("ViewRoundsModel", "rows", "[I", true)
  | 27 => ("ViewRoundsModel", "oldValues", "[I", true)
  | 28 => ("ViewRoundsModel", "oldCounts", "[I", true)
  | 29 => ("ViewRoundsModel", "oldRows", "[I", true)
  | 30 => ("ViewRoundsModel", "batch", "[I", true)
  | 31 => ("ViewRoundsModel", "batched", "I", false)
  | 32 => ("ViewRoundsModel", "kept", "[I", true)
  | 33 => ("ViewRoundsModel", "keptMany", "[I", true)
  | 34 => ("ViewRoundsModel", "history", "I", false)
  | 35 => ("ViewRoundsModel", "differences", "[I", true)
  | 36 => ("ViewRoundsModel", "different", "I", false)
  | 37 => ("ViewRoundsModel", "bound", "[I", true)
  | 38 => ("ViewRoundsModel", "cursor", "[I", true)
  | 39 => ("ViewRoundsModel", "positives", "[I", true)
  | 40 => ("ViewRoundsModel", "depth", "I", false)
  | 41 => ("ViewRoundsModel", "goals", "I", false)
  | 42 => ("ViewRoundsModel", "current", "I", false)
  | 43 => ("ViewRoundsModel", "fresh", "[I", true)
  | 44 => ("ViewRoundsModel", "freshCount", "[I", true)
  | 45 => ("ViewRoundsModel", "freshMany", "I", false)
  | 46 => ("ViewRoundsModel", "sums", "[I", true)
  | 47 => ("ViewRoundsModel", "summed", "I", false)
  | 48 => ("ViewRoundsModel", "ringNames", "[I", true)
  | 49 => ("ViewRoundsModel", "ringSize", "I", false)
  | _ => ("ViewRoundsModel", "best", "[I", true)
def ky_Mo : Nat → FieldType := fun k => match k with
  | 0 => .array .byte
  | 1 => .int
  | 2 => .array .int
  | 3 => .array .int
  | 4 => .int
  | 5 => .int
  | 6 => .int
  | 7 => .int
  | 8 => .int
  | 9 => .array .int
  | 10 => .array .int
  | 11 => .array .int
  | 12 => .array .int
  | 13 => .array .int
  | 14 => .array .int
  | 15 => .array .boolean
  | 16 => .array .int
  | 17 => .int
  | 18 => .array .int
  | 19 => .array .int
  | 20 => .array .boolean
  | 21 => .array .int
  | 22 => .array .boolean
  | 23 => .array .boolean
  | 24 => .array .int
  | 25 => .array .int
  | 26 => .array .int
  | 27 => .array .int
  | 28 => .array .int
  | 29 => .array .int
  | 30 => .array .int
  | 31 => .int
  | 32 => .array .int
  | 33 => .array .int
  | 34 => .int
  | 35 => .array .int
  | 36 => .int
  | 37 => .array .int
  | 38 => .array .int
  | 39 => .array .int
  | 40 => .int
  | 41 => .int
  | 42 => .int
  | 43 => .array .int
  | 44 => .array .int
  | 45 => .int
  | 46 => .array .int
  | 47 => .int
  | 48 => .array .int
  | 49 => .int
  | _ => .array .int
theorem kn_Mo : ∀ a, a < 51 → ∀ b, b < 51 → a ≠ b → (kT_Mo a).2.1 ≠ (kT_Mo b).2.1 := by decide +kernel
theorem kyo_Mo : ∀ k, k < 51 → parseFieldDescriptor (kT_Mo k).2.2.1 = some (ky_Mo k) := by decide +kernel
theorem kj_Mo : ∀ w ∈ u_ws kR_Mo kT_Mo 51, w ∈ z_W := show ∀ w ∈ ([.laysFinal "ViewRoundsModel" "ViewRoundsModel" "text" "[B", .lays "ViewRoundsModel" "ViewRoundsModel" "size" "I", .laysFinal "ViewRoundsModel" "ViewRoundsModel" "signs" "[I", .laysFinal "ViewRoundsModel" "ViewRoundsModel" "places" "[I", .lays "ViewRoundsModel" "ViewRoundsModel" "many" "I", .lays "ViewRoundsModel" "ViewRoundsModel" "at" "I", .lays "ViewRoundsModel" "ViewRoundsModel" "fault" "I", .lays "ViewRoundsModel" "ViewRoundsModel" "place" "I", .lays "ViewRoundsModel" "ViewRoundsModel" "rules" "I", .laysFinal "ViewRoundsModel" "ViewRoundsModel" "head" "[I", .laysFinal "ViewRoundsModel" "ViewRoundsModel" "headTerms" "[I", .laysFinal "ViewRoundsModel" "ViewRoundsModel" "literals" "[I", .laysFinal "ViewRoundsModel" "ViewRoundsModel" "kinds" "[I", .laysFinal "ViewRoundsModel" "ViewRoundsModel" "relations" "[I", .laysFinal "ViewRoundsModel" "ViewRoundsModel" "terms" "[I", .laysFinal "ViewRoundsModel" "ViewRoundsModel" "counting" "[Z", .laysFinal "ViewRoundsModel" "ViewRoundsModel" "letters" "[I", .lays "ViewRoundsModel" "ViewRoundsModel" "known" "I", .laysFinal "ViewRoundsModel" "ViewRoundsModel" "names" "[I", .laysFinal "ViewRoundsModel" "ViewRoundsModel" "arity" "[I", .laysFinal "ViewRoundsModel" "ViewRoundsModel" "view" "[Z", .laysFinal "ViewRoundsModel" "ViewRoundsModel" "layer" "[I", .laysFinal "ViewRoundsModel" "ViewRoundsModel" "reach" "[Z", .laysFinal "ViewRoundsModel" "ViewRoundsModel" "onRing" "[Z", .laysFinal "ViewRoundsModel" "ViewRoundsModel" "values" "[I", .laysFinal "ViewRoundsModel" "ViewRoundsModel" "counts" "[I", .laysFinal "ViewRoundsModel" "ViewRoundsModel" "rows" "[I", .laysFinal "ViewRoundsModel" "ViewRoundsModel" "oldValues" "[I", .laysFinal "ViewRoundsModel" "ViewRoundsModel" "oldCounts" "[I", .laysFinal "ViewRoundsModel" "ViewRoundsModel" "oldRows" "[I", .laysFinal "ViewRoundsModel" "ViewRoundsModel" "batch" "[I", .lays "ViewRoundsModel" "ViewRoundsModel" "batched" "I", .laysFinal "ViewRoundsModel" "ViewRoundsModel" "kept" "[I", .laysFinal "ViewRoundsModel" "ViewRoundsModel" "keptMany" "[I", .lays "ViewRoundsModel" "ViewRoundsModel" "history" "I", .laysFinal "ViewRoundsModel" "ViewRoundsModel" "differences" "[I", .lays "ViewRoundsModel" "ViewRoundsModel" "different" "I", .laysFinal "ViewRoundsModel" "ViewRoundsModel" "bound" "[I", .laysFinal "ViewRoundsModel" "ViewRoundsModel" "cursor" "[I", .laysFinal "ViewRoundsModel" "ViewRoundsModel" "positives" "[I", .lays "ViewRoundsModel" "ViewRoundsModel" "depth" "I", .lays "ViewRoundsModel" "ViewRoundsModel" "goals" "I", .lays "ViewRoundsModel" "ViewRoundsModel" "current" "I", .laysFinal "ViewRoundsModel" "ViewRoundsModel" "fresh" "[I", .laysFinal "ViewRoundsModel" "ViewRoundsModel" "freshCount" "[I", .lays "ViewRoundsModel" "ViewRoundsModel" "freshMany" "I", .laysFinal "ViewRoundsModel" "ViewRoundsModel" "sums" "[I", .lays "ViewRoundsModel" "ViewRoundsModel" "summed" "I", .laysFinal "ViewRoundsModel" "ViewRoundsModel" "ringNames" "[I", .lays "ViewRoundsModel" "ViewRoundsModel" "ringSize" "I", .laysFinal "ViewRoundsModel" "ViewRoundsModel" "best" "[I"] : List Cond), w ∈ z_W from List.forall_mem_cons.mpr ⟨kw_635, List.forall_mem_cons.mpr ⟨kw_636, List.forall_mem_cons.mpr ⟨kw_637, List.forall_mem_cons.mpr ⟨kw_638, List.forall_mem_cons.mpr ⟨kw_639, List.forall_mem_cons.mpr ⟨kw_640, List.forall_mem_cons.mpr ⟨kw_641, List.forall_mem_cons.mpr ⟨kw_642, List.forall_mem_cons.mpr ⟨kw_643, List.forall_mem_cons.mpr ⟨kw_644, List.forall_mem_cons.mpr ⟨kw_645, List.forall_mem_cons.mpr ⟨kw_646, List.forall_mem_cons.mpr ⟨kw_647, List.forall_mem_cons.mpr ⟨kw_648, List.forall_mem_cons.mpr ⟨kw_649, List.forall_mem_cons.mpr ⟨kw_650, List.forall_mem_cons.mpr ⟨kw_651, List.forall_mem_cons.mpr ⟨kw_652, List.forall_mem_cons.mpr ⟨kw_653, List.forall_mem_cons.mpr ⟨kw_654, List.forall_mem_cons.mpr ⟨kw_655, List.forall_mem_cons.mpr ⟨kw_656, List.forall_mem_cons.mpr ⟨kw_657, List.forall_mem_cons.mpr ⟨kw_658, List.forall_mem_cons.mpr ⟨kw_659, List.forall_mem_cons.mpr ⟨kw_660, List.forall_mem_cons.mpr ⟨kw_661, List.forall_mem_cons.mpr ⟨kw_662, List.forall_mem_cons.mpr ⟨kw_663, List.forall_mem_cons.mpr ⟨kw_664, List.forall_mem_cons.mpr ⟨kw_665, List.forall_mem_cons.mpr ⟨kw_666, List.forall_mem_cons.mpr ⟨kw_667, List.forall_mem_cons.mpr ⟨kw_668, List.forall_mem_cons.mpr ⟨kw_669, List.forall_mem_cons.mpr ⟨kw_670, List.forall_mem_cons.mpr ⟨kw_671, List.forall_mem_cons.mpr ⟨kw_672, List.forall_mem_cons.mpr ⟨kw_673, List.forall_mem_cons.mpr ⟨kw_674, List.forall_mem_cons.mpr ⟨kw_675, List.forall_mem_cons.mpr ⟨kw_676, List.forall_mem_cons.mpr ⟨kw_677, List.forall_mem_cons.mpr ⟨kw_678, List.forall_mem_cons.mpr ⟨kw_679, List.forall_mem_cons.mpr ⟨kw_680, List.forall_mem_cons.mpr ⟨kw_681, List.forall_mem_cons.mpr ⟨kw_682, List.forall_mem_cons.mpr ⟨kw_683, List.forall_mem_cons.mpr ⟨kw_684, List.forall_mem_cons.mpr ⟨kw_685, fun _ h => absurd h List.not_mem_nil⟩⟩⟩⟩⟩⟩⟩⟩⟩⟩⟩⟩⟩⟩⟩⟩⟩⟩⟩⟩⟩⟩⟩⟩⟩⟩⟩⟩⟩⟩⟩⟩⟩⟩⟩⟩⟩⟩⟩⟩⟩⟩⟩⟩⟩⟩⟩⟩⟩⟩⟩
theorem ki_Mo {c0 : Cond} : ∀ w ∈ u_ws kR_Mo kT_Mo 51, w ∈ c0 :: z_W := fun w h => List.mem_cons_of_mem _ (kj_Mo w h)
def z_cl : List vw_C := [(kR_At, kT_At, 6), (kR_En, kT_En, 12), (kR_Pr, kT_Pr, 11), (kR_Re, kT_Re, 7), (kR_Ro, kT_Ro, 3), (kR_Ru, kT_Ru, 7), (kR_Si, kT_Si, 4), (kR_Vr, kT_Vr, 13), (kR_Mo, kT_Mo, 51)]
def z_KT : Nat → List Nat := fun k => match k with
  | 0 => [1, 0, 0, 0, 0, 0]
  | 1 => [1, 1, 1, 1, 0, 0, 0, 0, 0, 1, 1, 1]
  | 2 => [1, 0, 1, 1, 1, 1, 0, 0, 0, 0, 0]
  | 3 => [1, 0, 0, 1, 0, 0, 1]
  | 4 => [1, 1, 0]
  | 5 => [1, 1, 0, 0, 0, 0, 0]
  | 6 => [1, 1, 1, 0]
  | 7 => [1, 0, 0, 1, 0, 1, 1, 1, 1, 1, 0, 1, 1]
  | 8 => [1, 0, 1, 1, 0, 0, 0, 0, 0, 1, 1, 1, 1, 1, 1, 1, 1, 0, 1, 1, 1, 1, 1, 1, 1, 1, 1, 1, 1, 1, 1, 0, 1, 1, 0, 1, 0, 1, 1, 1, 0, 0, 0, 1, 1, 0, 1, 0, 1, 0, 1]
  | _ => []
theorem kd_At : ∀ j, j < 6 → defaultValue (ky_At j) = vp_V (z_df (z_KT 0)) j := by
  intro j hj
  rcases (show j = 0 ∨ j = 1 ∨ j = 2 ∨ j = 3 ∨ j = 4 ∨ j = 5 by omega) with rfl | rfl | rfl | rfl | rfl | rfl <;> rfl
theorem kd_En : ∀ j, j < 12 → defaultValue (ky_En j) = vp_V (z_df (z_KT 1)) j := by
  intro j hj
  rcases (show j = 0 ∨ j = 1 ∨ j = 2 ∨ j = 3 ∨ j = 4 ∨ j = 5 ∨ j = 6 ∨ j = 7 ∨ j = 8 ∨ j = 9 ∨ j = 10 ∨ j = 11 by omega) with rfl | rfl | rfl | rfl | rfl | rfl | rfl | rfl | rfl | rfl | rfl | rfl <;> rfl
theorem kd_Pr : ∀ j, j < 11 → defaultValue (ky_Pr j) = vp_V (z_df (z_KT 2)) j := by
  intro j hj
  rcases (show j = 0 ∨ j = 1 ∨ j = 2 ∨ j = 3 ∨ j = 4 ∨ j = 5 ∨ j = 6 ∨ j = 7 ∨ j = 8 ∨ j = 9 ∨ j = 10 by omega) with rfl | rfl | rfl | rfl | rfl | rfl | rfl | rfl | rfl | rfl | rfl <;> rfl
theorem kd_Re : ∀ j, j < 7 → defaultValue (ky_Re j) = vp_V (z_df (z_KT 3)) j := by
  intro j hj
  rcases (show j = 0 ∨ j = 1 ∨ j = 2 ∨ j = 3 ∨ j = 4 ∨ j = 5 ∨ j = 6 by omega) with rfl | rfl | rfl | rfl | rfl | rfl | rfl <;> rfl
theorem kd_Ro : ∀ j, j < 3 → defaultValue (ky_Ro j) = vp_V (z_df (z_KT 4)) j := by
  intro j hj
  rcases (show j = 0 ∨ j = 1 ∨ j = 2 by omega) with rfl | rfl | rfl <;> rfl
theorem kd_Ru : ∀ j, j < 7 → defaultValue (ky_Ru j) = vp_V (z_df (z_KT 5)) j := by
  intro j hj
  rcases (show j = 0 ∨ j = 1 ∨ j = 2 ∨ j = 3 ∨ j = 4 ∨ j = 5 ∨ j = 6 by omega) with rfl | rfl | rfl | rfl | rfl | rfl | rfl <;> rfl
theorem kd_Si : ∀ j, j < 4 → defaultValue (ky_Si j) = vp_V (z_df (z_KT 6)) j := by
  intro j hj
  rcases (show j = 0 ∨ j = 1 ∨ j = 2 ∨ j = 3 by omega) with rfl | rfl | rfl | rfl <;> rfl
theorem kd_Vr : ∀ j, j < 13 → defaultValue (ky_Vr j) = vp_V (z_df (z_KT 7)) j := by
  intro j hj
  rcases (show j = 0 ∨ j = 1 ∨ j = 2 ∨ j = 3 ∨ j = 4 ∨ j = 5 ∨ j = 6 ∨ j = 7 ∨ j = 8 ∨ j = 9 ∨ j = 10 ∨ j = 11 ∨ j = 12 by omega) with rfl | rfl | rfl | rfl | rfl | rfl | rfl | rfl | rfl | rfl | rfl | rfl | rfl <;> rfl
theorem kd_Mo : ∀ j, j < 51 → defaultValue (ky_Mo j) = vp_V (z_df (z_KT 8)) j := by
  intro j hj
  rcases (show j = 0 ∨ j = 1 ∨ j = 2 ∨ j = 3 ∨ j = 4 ∨ j = 5 ∨ j = 6 ∨ j = 7 ∨ j = 8 ∨ j = 9 ∨ j = 10 ∨ j = 11 ∨ j = 12 ∨ j = 13 ∨ j = 14 ∨ j = 15 ∨ j = 16 ∨ j = 17 ∨ j = 18 ∨ j = 19 ∨ j = 20 ∨ j = 21 ∨ j = 22 ∨ j = 23 ∨ j = 24 ∨ j = 25 ∨ j = 26 ∨ j = 27 ∨ j = 28 ∨ j = 29 ∨ j = 30 ∨ j = 31 ∨ j = 32 ∨ j = 33 ∨ j = 34 ∨ j = 35 ∨ j = 36 ∨ j = 37 ∨ j = 38 ∨ j = 39 ∨ j = 40 ∨ j = 41 ∨ j = 42 ∨ j = 43 ∨ j = 44 ∨ j = 45 ∨ j = 46 ∨ j = 47 ∨ j = 48 ∨ j = 49 ∨ j = 50 by omega) with rfl | rfl | rfl | rfl | rfl | rfl | rfl | rfl | rfl | rfl | rfl | rfl | rfl | rfl | rfl | rfl | rfl | rfl | rfl | rfl | rfl | rfl | rfl | rfl | rfl | rfl | rfl | rfl | rfl | rfl | rfl | rfl | rfl | rfl | rfl | rfl | rfl | rfl | rfl | rfl | rfl | rfl | rfl | rfl | rfl | rfl | rfl | rfl | rfl | rfl | rfl <;> rfl
def z_tys (dA : Nat → ClassId) : List (ClassId × FieldType) := [(dA 0, .int), (dA 1, .byte), (dA 2, .boolean), (dA 8, .object "ViewRounds$Rule"), (dA 9, .object "ViewRounds$Rows"), (dA 10, .object "ViewRounds$SignedRows"), (dA 11, .object "ViewRounds$Atom")]
abbrev km_At_init : MethodName := ⟨"ViewRounds$Atom", "<init>", "()V"⟩
abbrev ks_At_init : List Cond := .code km_At_init prog_2_method_1_code 1 none :: z_W
def kr_At_init : Room := { frames := 1, cells := 1, slots := 3, locals := 20 }
abbrev km_At_append : MethodName := ⟨"ViewRounds$Atom", "append", "(I)V"⟩
abbrev ks_At_append : List Cond := .code km_At_append prog_2_method_2_code 2 none :: z_W
def kr_At_append : Room := { frames := 0, cells := 0, slots := 0, locals := 0 }
abbrev km_En_init : MethodName := ⟨"ViewRounds$Engine", "<init>", "()V"⟩
abbrev ks_En_init : List Cond := .code km_En_init prog_3_method_1_code 1 none :: z_W
def kr_En_init : Room := { frames := 3, cells := 15, slots := 752, locals := 60 }
abbrev km_En_workViews : MethodName := ⟨"ViewRounds$Engine", "workViews", "(LViewRounds$Program;[LViewRounds$Rows;)Z"⟩
abbrev ks_En_workViews : List Cond := .code km_En_workViews prog_3_method_2_code 4 (some .boolean) :: z_W
def kr_En_workViews : Room := { frames := 13, cells := 0, slots := 0, locals := 339 }
abbrev km_En_countDerivations : MethodName := ⟨"ViewRounds$Engine", "countDerivations", "(LViewRounds$Program;[LViewRounds$Rows;II)I"⟩
abbrev ks_En_countDerivations : List Cond := .code km_En_countDerivations prog_3_method_3_code 6 (some .int) :: z_W
def kr_En_countDerivations : Room := { frames := 13, cells := 0, slots := 0, locals := 337 }
abbrev km_En_findLeast : MethodName := ⟨"ViewRounds$Engine", "findLeast", "(LViewRounds$Program;[LViewRounds$Rows;II)I"⟩
abbrev ks_En_findLeast : List Cond := .code km_En_findLeast prog_3_method_4_code 6 (some .int) :: z_W
def kr_En_findLeast : Room := { frames := 13, cells := 0, slots := 0, locals := 337 }
abbrev km_En_begin : MethodName := ⟨"ViewRounds$Engine", "begin", "(LViewRounds$Program;[LViewRounds$Rows;I)V"⟩
abbrev ks_En_begin : List Cond := .code km_En_begin prog_3_method_5_code 4 none :: z_W
def kr_En_begin : Room := { frames := 0, cells := 0, slots := 0, locals := 0 }
abbrev km_En_solveFor : MethodName := ⟨"ViewRounds$Engine", "solveFor", "(III)V"⟩
abbrev ks_En_solveFor : List Cond := .code km_En_solveFor prog_3_method_6_code 4 none :: z_W
def kr_En_solveFor : Room := { frames := 12, cells := 0, slots := 0, locals := 314 }
abbrev km_En_seed : MethodName := ⟨"ViewRounds$Engine", "seed", "(I)V"⟩
abbrev ks_En_seed : List Cond := .code km_En_seed prog_3_method_7_code 3 none :: z_W
def kr_En_seed : Room := { frames := 12, cells := 0, slots := 0, locals := 314 }
abbrev km_En_usesLayer : MethodName := ⟨"ViewRounds$Engine", "usesLayer", "(I)Z"⟩
abbrev ks_En_usesLayer : List Cond := .code km_En_usesLayer prog_3_method_8_code 3 (some .boolean) :: z_W
def kr_En_usesLayer : Room := { frames := 0, cells := 0, slots := 0, locals := 0 }
abbrev km_En_spread : MethodName := ⟨"ViewRounds$Engine", "spread", "(I)V"⟩
abbrev ks_En_spread : List Cond := .code km_En_spread prog_3_method_9_code 6 none :: z_W
def kr_En_spread : Room := { frames := 12, cells := 0, slots := 0, locals := 314 }
abbrev km_En_solve : MethodName := ⟨"ViewRounds$Engine", "solve", "(I)V"⟩
abbrev ks_En_solve : List Cond := .code km_En_solve prog_3_method_10_code 8 none :: z_W
def kr_En_solve (d : Nat) : Room := { frames := 3 + d, cells := 0, slots := 0, locals := 71 + d * 27 }
abbrev km_En_isNothingNew : MethodName := ⟨"ViewRounds$Engine", "isNothingNew", "()Z"⟩
abbrev ks_En_isNothingNew : List Cond := .code km_En_isNothingNew prog_3_method_11_code 2 (some .boolean) :: z_W
def kr_En_isNothingNew : Room := { frames := 2, cells := 0, slots := 0, locals := 46 }
abbrev km_En_found : MethodName := ⟨"ViewRounds$Engine", "found", "()V"⟩
abbrev ks_En_found : List Cond := .code km_En_found prog_3_method_12_code 4 none :: z_W
def kr_En_found : Room := { frames := 2, cells := 0, slots := 0, locals := 48 }
abbrev km_En_enqueue : MethodName := ⟨"ViewRounds$Engine", "enqueue", "(II)V"⟩
abbrev ks_En_enqueue : List Cond := .code km_En_enqueue prog_3_method_13_code 3 none :: z_W
def kr_En_enqueue : Room := { frames := 0, cells := 0, slots := 0, locals := 0 }
abbrev km_En_closeCounts : MethodName := ⟨"ViewRounds$Engine", "closeCounts", "()V"⟩
abbrev ks_En_closeCounts : List Cond := .code km_En_closeCounts prog_3_method_14_code 3 none :: z_W
def kr_En_closeCounts : Room := { frames := 1, cells := 0, slots := 0, locals := 22 }
abbrev km_En_isLess : MethodName := ⟨"ViewRounds$Engine", "isLess", "()Z"⟩
abbrev ks_En_isLess : List Cond := .code km_En_isLess prog_3_method_15_code 3 (some .boolean) :: z_W
def kr_En_isLess : Room := { frames := 1, cells := 0, slots := 0, locals := 21 }
abbrev km_En_keepValues : MethodName := ⟨"ViewRounds$Engine", "keepValues", "()V"⟩
abbrev ks_En_keepValues : List Cond := .code km_En_keepValues prog_3_method_16_code 3 none :: z_W
def kr_En_keepValues : Room := { frames := 1, cells := 0, slots := 0, locals := 21 }
abbrev km_En_matches : MethodName := ⟨"ViewRounds$Engine", "matches", "(LViewRounds$Atom;I)Z"⟩
abbrev ks_En_matches : List Cond := .code km_En_matches prog_3_method_17_code 6 (some .boolean) :: z_W
def kr_En_matches : Room := { frames := 2, cells := 0, slots := 0, locals := 42 }
abbrev km_En_holds : MethodName := ⟨"ViewRounds$Engine", "holds", "(LViewRounds$Atom;)Z"⟩
abbrev ks_En_holds : List Cond := .code km_En_holds prog_3_method_18_code 4 (some .boolean) :: z_W
def kr_En_holds : Room := { frames := 2, cells := 0, slots := 0, locals := 46 }
abbrev km_En_keyOf : MethodName := ⟨"ViewRounds$Engine", "keyOf", "(LViewRounds$Atom;)I"⟩
abbrev ks_En_keyOf : List Cond := .code km_En_keyOf prog_3_method_19_code 4 (some .int) :: z_W
def kr_En_keyOf : Room := { frames := 1, cells := 0, slots := 0, locals := 21 }
abbrev km_En_isKnown : MethodName := ⟨"ViewRounds$Engine", "isKnown", "(I)Z"⟩
abbrev ks_En_isKnown : List Cond := .code km_En_isKnown prog_3_method_20_code 2 (some .boolean) :: z_W
def kr_En_isKnown : Room := { frames := 1, cells := 0, slots := 0, locals := 21 }
abbrev km_En_valueOf : MethodName := ⟨"ViewRounds$Engine", "valueOf", "(I)I"⟩
abbrev ks_En_valueOf : List Cond := .code km_En_valueOf prog_3_method_21_code 2 (some .int) :: z_W
def kr_En_valueOf : Room := { frames := 0, cells := 0, slots := 0, locals := 0 }
abbrev km_Pr_init : MethodName := ⟨"ViewRounds$Program", "<init>", "()V"⟩
abbrev ks_Pr_init : List Cond := .code km_Pr_init prog_4_method_1_code 1 none :: z_W
def kr_Pr_init : Room := { frames := 1, cells := 5, slots := 48, locals := 20 }
abbrev km_Pr_isRelation : MethodName := ⟨"ViewRounds$Program", "isRelation", "(I)Z"⟩
abbrev ks_Pr_isRelation : List Cond := .code km_Pr_isRelation prog_4_method_2_code 2 (some .boolean) :: z_W
def kr_Pr_isRelation : Room := { frames := 0, cells := 0, slots := 0, locals := 0 }
abbrev km_Pr_isView : MethodName := ⟨"ViewRounds$Program", "isView", "(I)Z"⟩
abbrev ks_Pr_isView : List Cond := .code km_Pr_isView prog_4_method_3_code 2 (some .boolean) :: z_W
def kr_Pr_isView : Room := { frames := 1, cells := 0, slots := 0, locals := 21 }
abbrev km_Pr_isCounted : MethodName := ⟨"ViewRounds$Program", "isCounted", "(I)Z"⟩
abbrev ks_Pr_isCounted : List Cond := .code km_Pr_isCounted prog_4_method_4_code 2 (some .boolean) :: z_W
def kr_Pr_isCounted : Room := { frames := 1, cells := 0, slots := 0, locals := 21 }
abbrev km_Pr_relationNamed : MethodName := ⟨"ViewRounds$Program", "relationNamed", "(I)I"⟩
abbrev ks_Pr_relationNamed : List Cond := .code km_Pr_relationNamed prog_4_method_5_code 3 (some .int) :: z_W
def kr_Pr_relationNamed : Room := { frames := 0, cells := 0, slots := 0, locals := 0 }
abbrev km_Pr_relationMade : MethodName := ⟨"ViewRounds$Program", "relationMade", "(I)I"⟩
abbrev ks_Pr_relationMade : List Cond := .code km_Pr_relationMade prog_4_method_6_code 3 (some .int) :: z_W
def kr_Pr_relationMade : Room := { frames := 1, cells := 0, slots := 0, locals := 22 }
abbrev km_Pr_refusesCount : MethodName := ⟨"ViewRounds$Program", "refusesCount", "(LViewRounds$Rule;)Z"⟩
abbrev ks_Pr_refusesCount : List Cond := .code km_Pr_refusesCount prog_4_method_7_code 2 (some .boolean) :: z_W
def kr_Pr_refusesCount : Room := { frames := 2, cells := 0, slots := 0, locals := 42 }
abbrev km_Pr_append : MethodName := ⟨"ViewRounds$Program", "append", "(LViewRounds$Rule;)V"⟩
abbrev ks_Pr_append : List Cond := .code km_Pr_append prog_4_method_8_code 2 none :: z_W
def kr_Pr_append : Room := { frames := 0, cells := 0, slots := 0, locals := 0 }
abbrev km_Pr_findLayers : MethodName := ⟨"ViewRounds$Program", "findLayers", "()Z"⟩
abbrev ks_Pr_findLayers : List Cond := .code km_Pr_findLayers prog_4_method_9_code 2 (some .boolean) :: z_W
def kr_Pr_findLayers : Room := { frames := 3, cells := 0, slots := 0, locals := 69 }
abbrev km_Pr_findReach : MethodName := ⟨"ViewRounds$Program", "findReach", "()V"⟩
abbrev ks_Pr_findReach : List Cond := .code km_Pr_findReach prog_4_method_10_code 4 none :: z_W
def kr_Pr_findReach : Room := { frames := 1, cells := 0, slots := 0, locals := 21 }
abbrev km_Pr_findRing : MethodName := ⟨"ViewRounds$Program", "findRing", "()V"⟩
abbrev ks_Pr_findRing : List Cond := .code km_Pr_findRing prog_4_method_11_code 6 none :: z_W
def kr_Pr_findRing : Room := { frames := 2, cells := 0, slots := 0, locals := 44 }
abbrev km_Pr_mustLieBelow : MethodName := ⟨"ViewRounds$Program", "mustLieBelow", "(LViewRounds$Rule;LViewRounds$Atom;)Z"⟩
abbrev ks_Pr_mustLieBelow : List Cond := .code km_Pr_mustLieBelow prog_4_method_12_code 3 (some .boolean) :: z_W
def kr_Pr_mustLieBelow : Room := { frames := 0, cells := 0, slots := 0, locals := 0 }
abbrev km_Pr_ringThrough : MethodName := ⟨"ViewRounds$Program", "ringThrough", "(I)I"⟩
abbrev ks_Pr_ringThrough : List Cond := .code km_Pr_ringThrough prog_4_method_13_code 4 (some .int) :: z_W
def kr_Pr_ringThrough : Room := { frames := 1, cells := 0, slots := 0, locals := 21 }
abbrev km_Pr_chooseRing : MethodName := ⟨"ViewRounds$Program", "chooseRing", "(I)V"⟩
abbrev ks_Pr_chooseRing : List Cond := .code km_Pr_chooseRing prog_4_method_14_code 2 none :: z_W
def kr_Pr_chooseRing : Room := { frames := 0, cells := 0, slots := 0, locals := 0 }
abbrev km_Pr_raiseLayers : MethodName := ⟨"ViewRounds$Program", "raiseLayers", "()V"⟩
abbrev ks_Pr_raiseLayers : List Cond := .code km_Pr_raiseLayers prog_4_method_15_code 7 none :: z_W
def kr_Pr_raiseLayers : Room := { frames := 1, cells := 0, slots := 0, locals := 22 }
abbrev km_Re_init : MethodName := ⟨"ViewRounds$Reader", "<init>", "([BI)V"⟩
abbrev ks_Re_init : List Cond := .code km_Re_init prog_5_method_1_code 3 none :: z_W
def kr_Re_init : Room := { frames := 3, cells := 10, slots := 80, locals := 60 }
abbrev km_Re_readRules : MethodName := ⟨"ViewRounds$Reader", "readRules", "()V"⟩
abbrev ks_Re_readRules : List Cond := .code km_Re_readRules prog_5_method_2_code 3 none :: z_W
def kr_Re_readRules : Room := { frames := 6, cells := 272, slots := 1275, locals := 138 }
abbrev km_Re_readRule : MethodName := ⟨"ViewRounds$Reader", "readRule", "()Z"⟩
abbrev ks_Re_readRule : List Cond := .code km_Re_readRule prog_5_method_3_code 2 (some .boolean) :: z_W
def kr_Re_readRule : Room := { frames := 5, cells := 16, slots := 75, locals := 117 }
abbrev km_Re_closeRule : MethodName := ⟨"ViewRounds$Reader", "closeRule", "()Z"⟩
abbrev ks_Re_closeRule : List Cond := .code km_Re_closeRule prog_5_method_4_code 1 (some .boolean) :: z_W
def kr_Re_closeRule : Room := { frames := 3, cells := 0, slots := 0, locals := 63 }
abbrev km_Re_readLiteral : MethodName := ⟨"ViewRounds$Reader", "readLiteral", "()Z"⟩
abbrev ks_Re_readLiteral : List Cond := .code km_Re_readLiteral prog_5_method_5_code 6 (some .boolean) :: z_W
def kr_Re_readLiteral : Room := { frames := 4, cells := 2, slots := 9, locals := 92 }
abbrev km_Re_readOperator : MethodName := ⟨"ViewRounds$Reader", "readOperator", "(LViewRounds$Atom;)Z"⟩
abbrev ks_Re_readOperator : List Cond := .code km_Re_readOperator prog_5_method_6_code 3 (some .boolean) :: z_W
def kr_Re_readOperator : Room := { frames := 1, cells := 0, slots := 0, locals := 21 }
abbrev km_Re_readNamed : MethodName := ⟨"ViewRounds$Reader", "readNamed", "(LViewRounds$Atom;Z)Z"⟩
abbrev ks_Re_readNamed : List Cond := .code km_Re_readNamed prog_5_method_7_code 8 (some .boolean) :: z_W
def kr_Re_readNamed : Room := { frames := 3, cells := 0, slots := 0, locals := 65 }
abbrev km_Re_readTerm : MethodName := ⟨"ViewRounds$Reader", "readTerm", "(LViewRounds$Atom;Z)Z"⟩
abbrev ks_Re_readTerm : List Cond := .code km_Re_readTerm prog_5_method_8_code 4 (some .boolean) :: z_W
def kr_Re_readTerm : Room := { frames := 2, cells := 0, slots := 0, locals := 42 }
abbrev km_Re_readNumber : MethodName := ⟨"ViewRounds$Reader", "readNumber", "()I"⟩
abbrev ks_Re_readNumber : List Cond := .code km_Re_readNumber prog_5_method_9_code 3 (some .int) :: z_W
def kr_Re_readNumber : Room := { frames := 1, cells := 0, slots := 0, locals := 20 }
abbrev km_Re_takes : MethodName := ⟨"ViewRounds$Reader", "takes", "(I)Z"⟩
abbrev ks_Re_takes : List Cond := .code km_Re_takes prog_5_method_10_code 2 (some .boolean) :: z_W
def kr_Re_takes : Room := { frames := 1, cells := 0, slots := 0, locals := 21 }
abbrev km_Re_sign : MethodName := ⟨"ViewRounds$Reader", "sign", "()I"⟩
abbrev ks_Re_sign : List Cond := .code km_Re_sign prog_5_method_11_code 1 (some .int) :: z_W
def kr_Re_sign : Room := { frames := 0, cells := 0, slots := 0, locals := 0 }
abbrev km_Re_fail : MethodName := ⟨"ViewRounds$Reader", "fail", "(I)Z"⟩
abbrev ks_Re_fail : List Cond := .code km_Re_fail prog_5_method_12_code 2 (some .boolean) :: z_W
def kr_Re_fail : Room := { frames := 0, cells := 0, slots := 0, locals := 0 }
abbrev km_Re_isName : MethodName := ⟨"ViewRounds$Reader", "isName", "(I)Z"⟩
abbrev ks_Re_isName : List Cond := .code km_Re_isName prog_5_method_13_code 1 (some .boolean) :: z_W
def kr_Re_isName : Room := { frames := 0, cells := 0, slots := 0, locals := 0 }
abbrev km_Re_isVariable : MethodName := ⟨"ViewRounds$Reader", "isVariable", "(I)Z"⟩
abbrev ks_Re_isVariable : List Cond := .code km_Re_isVariable prog_5_method_14_code 1 (some .boolean) :: z_W
def kr_Re_isVariable : Room := { frames := 0, cells := 0, slots := 0, locals := 0 }
abbrev km_Re_isDigit : MethodName := ⟨"ViewRounds$Reader", "isDigit", "(I)Z"⟩
abbrev ks_Re_isDigit : List Cond := .code km_Re_isDigit prog_5_method_15_code 1 (some .boolean) :: z_W
def kr_Re_isDigit : Room := { frames := 0, cells := 0, slots := 0, locals := 0 }
abbrev km_Ro_init : MethodName := ⟨"ViewRounds$Rows", "<init>", "()V"⟩
abbrev ks_Ro_init : List Cond := .code km_Ro_init prog_6_method_1_code 1 none :: z_W
def kr_Ro_init : Room := { frames := 1, cells := 2, slots := 200, locals := 20 }
abbrev km_Ro_seek : MethodName := ⟨"ViewRounds$Rows", "seek", "(I)I"⟩
abbrev ks_Ro_seek : List Cond := .code km_Ro_seek prog_6_method_2_code 5 (some .int) :: z_W
def kr_Ro_seek : Room := { frames := 0, cells := 0, slots := 0, locals := 0 }
abbrev km_Ro_countOf : MethodName := ⟨"ViewRounds$Rows", "countOf", "(I)I"⟩
abbrev ks_Ro_countOf : List Cond := .code km_Ro_countOf prog_6_method_3_code 3 (some .int) :: z_W
def kr_Ro_countOf : Room := { frames := 1, cells := 0, slots := 0, locals := 24 }
abbrev km_Ro_add : MethodName := ⟨"ViewRounds$Rows", "add", "(II)I"⟩
abbrev ks_Ro_add : List Cond := .code km_Ro_add prog_6_method_4_code 5 (some .int) :: z_W
def kr_Ro_add : Room := { frames := 1, cells := 0, slots := 0, locals := 24 }
abbrev km_Ro_dropZeros : MethodName := ⟨"ViewRounds$Rows", "dropZeros", "()Z"⟩
abbrev ks_Ro_dropZeros : List Cond := .code km_Ro_dropZeros prog_6_method_5_code 3 (some .boolean) :: z_W
def kr_Ro_dropZeros : Room := { frames := 0, cells := 0, slots := 0, locals := 0 }
abbrev km_Ro_copy : MethodName := ⟨"ViewRounds$Rows", "copy", "(LViewRounds$Rows;)V"⟩
abbrev ks_Ro_copy : List Cond := .code km_Ro_copy prog_6_method_6_code 3 none :: z_W
def kr_Ro_copy : Room := { frames := 0, cells := 0, slots := 0, locals := 0 }
abbrev km_Ro_isSame : MethodName := ⟨"ViewRounds$Rows", "isSame", "(LViewRounds$Rows;)Z"⟩
abbrev ks_Ro_isSame : List Cond := .code km_Ro_isSame prog_6_method_7_code 3 (some .boolean) :: z_W
def kr_Ro_isSame : Room := { frames := 0, cells := 0, slots := 0, locals := 0 }
abbrev km_Ru_init : MethodName := ⟨"ViewRounds$Rule", "<init>", "()V"⟩
abbrev ks_Ru_init : List Cond := .code km_Ru_init prog_7_method_1_code 1 none :: z_W
def kr_Ru_init : Room := { frames := 2, cells := 3, slots := 14, locals := 40 }
abbrev km_Ru_append : MethodName := ⟨"ViewRounds$Rule", "append", "(LViewRounds$Atom;)V"⟩
abbrev ks_Ru_append : List Cond := .code km_Ru_append prog_7_method_2_code 2 none :: z_W
def kr_Ru_append : Room := { frames := 0, cells := 0, slots := 0, locals := 0 }
abbrev km_Ru_takesVariable : MethodName := ⟨"ViewRounds$Rule", "takesVariable", "(I)Z"⟩
abbrev ks_Ru_takesVariable : List Cond := .code km_Ru_takesVariable prog_7_method_3_code 2 (some .boolean) :: z_W
def kr_Ru_takesVariable : Room := { frames := 1, cells := 0, slots := 0, locals := 21 }
abbrev km_Ru_hasLooseVariable : MethodName := ⟨"ViewRounds$Rule", "hasLooseVariable", "()Z"⟩
abbrev ks_Ru_hasLooseVariable : List Cond := .code km_Ru_hasLooseVariable prog_7_method_4_code 4 (some .boolean) :: z_W
def kr_Ru_hasLooseVariable : Room := { frames := 0, cells := 0, slots := 0, locals := 0 }
abbrev km_Ru_arrange : MethodName := ⟨"ViewRounds$Rule", "arrange", "()V"⟩
abbrev ks_Ru_arrange : List Cond := .code km_Ru_arrange prog_7_method_5_code 6 none :: z_W
def kr_Ru_arrange : Room := { frames := 1, cells := 0, slots := 0, locals := 25 }
abbrev km_Ru_nextLiteral : MethodName := ⟨"ViewRounds$Rule", "nextLiteral", "(II)I"⟩
abbrev ks_Ru_nextLiteral : List Cond := .code km_Ru_nextLiteral prog_7_method_6_code 6 (some .int) :: z_W
def kr_Ru_nextLiteral : Room := { frames := 0, cells := 0, slots := 0, locals := 0 }
abbrev km_Si_init : MethodName := ⟨"ViewRounds$SignedRows", "<init>", "(I)V"⟩
abbrev ks_Si_init : List Cond := .code km_Si_init prog_8_method_1_code 3 none :: z_W
def kr_Si_init : Room := { frames := 1, cells := 3, slots := 1920, locals := 21 }
abbrev km_Si_append : MethodName := ⟨"ViewRounds$SignedRows", "append", "(III)V"⟩
abbrev ks_Si_append : List Cond := .code km_Si_append prog_8_method_2_code 4 none :: z_W
def kr_Si_append : Room := { frames := 0, cells := 0, slots := 0, locals := 0 }
abbrev km_Vr_init : MethodName := ⟨"ViewRounds", "<init>", "()V"⟩
abbrev ks_Vr_init : List Cond := .code km_Vr_init prog_1_method_1_code 2 none :: z_W
def kr_Vr_init : Room := { frames := 4, cells := 200, slots := 30000, locals := 80 }
abbrev km_Vr_feed : MethodName := ⟨"ViewRounds", "feed", "(JI)I"⟩
abbrev ks_Vr_feed : List Cond := .code km_Vr_feed prog_1_method_2_code 5 (some .int) :: z_W
def kr_Vr_feed : Room := { frames := 0, cells := 0, slots := 0, locals := 0 }
abbrev km_Vr_parse : MethodName := ⟨"ViewRounds", "parse", "()I"⟩
abbrev ks_Vr_parse : List Cond := .code km_Vr_parse prog_1_method_3_code 3 (some .int) :: z_W
def kr_Vr_parse : Room := { frames := 14, cells := 289, slots := 1421, locals := 362 }
abbrev km_Vr_place : MethodName := ⟨"ViewRounds", "place", "()I"⟩
abbrev ks_Vr_place : List Cond := .code km_Vr_place prog_1_method_4_code 1 (some .int) :: z_W
def kr_Vr_place : Room := { frames := 0, cells := 0, slots := 0, locals := 0 }
abbrev km_Vr_ring : MethodName := ⟨"ViewRounds", "ring", "(I)I"⟩
abbrev ks_Vr_ring : List Cond := .code km_Vr_ring prog_1_method_5_code 2 (some .int) :: z_W
def kr_Vr_ring : Room := { frames := 0, cells := 0, slots := 0, locals := 0 }
abbrev km_Vr_relation : MethodName := ⟨"ViewRounds", "relation", "(I)I"⟩
abbrev ks_Vr_relation : List Cond := .code km_Vr_relation prog_1_method_6_code 2 (some .int) :: z_W
def kr_Vr_relation : Room := { frames := 1, cells := 0, slots := 0, locals := 22 }
abbrev km_Vr_of : MethodName := ⟨"ViewRounds", "of", "(II)I"⟩
abbrev ks_Vr_of : List Cond := .code km_Vr_of prog_1_method_7_code 3 (some .int) :: z_W
def kr_Vr_of : Room := { frames := 2, cells := 0, slots := 0, locals := 42 }
abbrev km_Vr_change : MethodName := ⟨"ViewRounds", "change", "(IIIII)I"⟩
abbrev ks_Vr_change : List Cond := .code km_Vr_change prog_1_method_8_code 7 (some .int) :: z_W
def kr_Vr_change : Room := { frames := 2, cells := 0, slots := 0, locals := 46 }
abbrev km_Vr_batch : MethodName := ⟨"ViewRounds", "batch", "()I"⟩
abbrev ks_Vr_batch : List Cond := .code km_Vr_batch prog_1_method_9_code 2 (some .int) :: z_W
def kr_Vr_batch : Room := { frames := 15, cells := 0, slots := 0, locals := 386 }
abbrev km_Vr_drop : MethodName := ⟨"ViewRounds", "drop", "()I"⟩
abbrev ks_Vr_drop : List Cond := .code km_Vr_drop prog_1_method_10_code 2 (some .int) :: z_W
def kr_Vr_drop : Room := { frames := 1, cells := 0, slots := 0, locals := 20 }
abbrev km_Vr_difference : MethodName := ⟨"ViewRounds", "difference", "(II)I"⟩
abbrev ks_Vr_difference : List Cond := .code km_Vr_difference prog_1_method_11_code 3 (some .int) :: z_W
def kr_Vr_difference : Room := { frames := 1, cells := 0, slots := 0, locals := 21 }
abbrev km_Vr_undo : MethodName := ⟨"ViewRounds", "undo", "()I"⟩
abbrev ks_Vr_undo : List Cond := .code km_Vr_undo prog_1_method_12_code 2 (some .int) :: z_W
def kr_Vr_undo : Room := { frames := 15, cells := 0, slots := 0, locals := 386 }
abbrev km_Vr_has : MethodName := ⟨"ViewRounds", "has", "(IIII)I"⟩
abbrev ks_Vr_has : List Cond := .code km_Vr_has prog_1_method_13_code 6 (some .int) :: z_W
def kr_Vr_has : Room := { frames := 2, cells := 0, slots := 0, locals := 46 }
abbrev km_Vr_row : MethodName := ⟨"ViewRounds", "row", "(III)I"⟩
abbrev ks_Vr_row : List Cond := .code km_Vr_row prog_1_method_14_code 5 (some .int) :: z_W
def kr_Vr_row : Room := { frames := 1, cells := 0, slots := 0, locals := 21 }
abbrev km_Vr_derivations : MethodName := ⟨"ViewRounds", "derivations", "(IIII)I"⟩
abbrev ks_Vr_derivations : List Cond := .code km_Vr_derivations prog_1_method_15_code 6 (some .int) :: z_W
def kr_Vr_derivations : Room := { frames := 14, cells := 0, slots := 0, locals := 362 }
abbrev km_Vr_why : MethodName := ⟨"ViewRounds", "why", "(IIIII)I"⟩
abbrev ks_Vr_why : List Cond := .code km_Vr_why prog_1_method_16_code 9 (some .int) :: z_W
def kr_Vr_why : Room := { frames := 14, cells := 0, slots := 0, locals := 362 }
abbrev km_Vr_anew : MethodName := ⟨"ViewRounds", "anew", "()Z"⟩
abbrev ks_Vr_anew : List Cond := .code km_Vr_anew prog_1_method_17_code 1 (some .boolean) :: z_W
def kr_Vr_anew : Room := { frames := 14, cells := 0, slots := 0, locals := 362 }
abbrev km_Vr_told : MethodName := ⟨"ViewRounds", "told", "(I)I"⟩
abbrev ks_Vr_told : List Cond := .code km_Vr_told prog_1_method_18_code 2 (some .int) :: z_W
def kr_Vr_told : Room := { frames := 0, cells := 0, slots := 0, locals := 0 }
abbrev km_Vr_hasNoRules : MethodName := ⟨"ViewRounds", "hasNoRules", "()Z"⟩
abbrev ks_Vr_hasNoRules : List Cond := .code km_Vr_hasNoRules prog_1_method_19_code 1 (some .boolean) :: z_W
def kr_Vr_hasNoRules : Room := { frames := 0, cells := 0, slots := 0, locals := 0 }
abbrev km_Vr_forgetRules : MethodName := ⟨"ViewRounds", "forgetRules", "()V"⟩
abbrev ks_Vr_forgetRules : List Cond := .code km_Vr_forgetRules prog_1_method_20_code 1 none :: z_W
def kr_Vr_forgetRules : Room := { frames := 2, cells := 6, slots := 59, locals := 40 }
abbrev km_Vr_keepFault : MethodName := ⟨"ViewRounds", "keepFault", "(LViewRounds$Reader;)V"⟩
abbrev ks_Vr_keepFault : List Cond := .code km_Vr_keepFault prog_1_method_21_code 3 none :: z_W
def kr_Vr_keepFault : Room := { frames := 1, cells := 0, slots := 0, locals := 21 }
abbrev km_Vr_settle : MethodName := ⟨"ViewRounds", "settle", "(LViewRounds$SignedRows;I)I"⟩
abbrev ks_Vr_settle : List Cond := .code km_Vr_settle prog_1_method_22_code 5 (some .int) :: z_W
def kr_Vr_settle : Room := { frames := 14, cells := 0, slots := 0, locals := 362 }
abbrev km_Vr_noteDifferences : MethodName := ⟨"ViewRounds", "noteDifferences", "(ILViewRounds$Rows;LViewRounds$Rows;)V"⟩
abbrev ks_Vr_noteDifferences : List Cond := .code km_Vr_noteDifferences prog_1_method_23_code 9 none :: z_W
def kr_Vr_noteDifferences : Room := { frames := 1, cells := 0, slots := 0, locals := 23 }
abbrev km_Vr_keepForTakingBack : MethodName := ⟨"ViewRounds", "keepForTakingBack", "()V"⟩
abbrev ks_Vr_keepForTakingBack : List Cond := .code km_Vr_keepForTakingBack prog_1_method_24_code 3 none :: z_W
def kr_Vr_keepForTakingBack : Room := { frames := 0, cells := 0, slots := 0, locals := 0 }
abbrev km_Vr_copyTables : MethodName := ⟨"ViewRounds", "copyTables", "()V"⟩
abbrev ks_Vr_copyTables : List Cond := .code km_Vr_copyTables prog_1_method_25_code 2 none :: z_W
def kr_Vr_copyTables : Room := { frames := 2, cells := 0, slots := 0, locals := 42 }
abbrev km_Vr_takeNext : MethodName := ⟨"ViewRounds", "takeNext", "()V"⟩
abbrev ks_Vr_takeNext : List Cond := .code km_Vr_takeNext prog_1_method_26_code 2 none :: z_W
def kr_Vr_takeNext : Room := { frames := 0, cells := 0, slots := 0, locals := 0 }
abbrev km_Vr_viewsAreTheSame : MethodName := ⟨"ViewRounds", "viewsAreTheSame", "()Z"⟩
abbrev ks_Vr_viewsAreTheSame : List Cond := .code km_Vr_viewsAreTheSame prog_1_method_27_code 2 (some .boolean) :: z_W
def kr_Vr_viewsAreTheSame : Room := { frames := 2, cells := 0, slots := 0, locals := 42 }
abbrev km_Vr_isIn : MethodName := ⟨"ViewRounds", "isIn", "(II)Z"⟩
abbrev ks_Vr_isIn : List Cond := .code km_Vr_isIn prog_1_method_28_code 2 (some .boolean) :: z_W
def kr_Vr_isIn : Room := { frames := 0, cells := 0, slots := 0, locals := 0 }
abbrev km_Vr_weight : MethodName := ⟨"ViewRounds", "weight", "(I)I"⟩
abbrev ks_Vr_weight : List Cond := .code km_Vr_weight prog_1_method_29_code 1 (some .int) :: z_W
def kr_Vr_weight : Room := { frames := 0, cells := 0, slots := 0, locals := 0 }
abbrev km_Vr_valueAt : MethodName := ⟨"ViewRounds", "valueAt", "(II)I"⟩
abbrev ks_Vr_valueAt : List Cond := .code km_Vr_valueAt prog_1_method_30_code 2 (some .int) :: z_W
def kr_Vr_valueAt : Room := { frames := 0, cells := 0, slots := 0, locals := 0 }
abbrev km_Vr_pack : MethodName := ⟨"ViewRounds", "pack", "(IIII)I"⟩
abbrev ks_Vr_pack : List Cond := .code km_Vr_pack prog_1_method_31_code 7 (some .int) :: z_W
def kr_Vr_pack : Room := { frames := 1, cells := 0, slots := 0, locals := 20 }
abbrev km_Vr_isValue : MethodName := ⟨"ViewRounds", "isValue", "(I)Z"⟩
abbrev ks_Vr_isValue : List Cond := .code km_Vr_isValue prog_1_method_32_code 1 (some .boolean) :: z_W
def kr_Vr_isValue : Room := { frames := 0, cells := 0, slots := 0, locals := 0 }
abbrev km_Mo_init : MethodName := ⟨"ViewRoundsModel", "<init>", "()V"⟩
abbrev ks_Mo_init : List Cond := .code km_Mo_init prog_10_method_1_code 1 none :: z_W
def kr_Mo_init : Room := { frames := 1, cells := 35, slots := 11043, locals := 20 }
abbrev km_Mo_isIn : MethodName := ⟨"ViewRoundsModel", "isIn", "(III)Z"⟩
abbrev ks_Mo_isIn : List Cond := .code km_Mo_isIn prog_10_method_2_code 3 (some .boolean) :: z_W
def kr_Mo_isIn : Room := { frames := 0, cells := 0, slots := 0, locals := 0 }
abbrev km_Mo_wrong : MethodName := ⟨"ViewRoundsModel", "wrong", "(I)V"⟩
abbrev ks_Mo_wrong : List Cond := .code km_Mo_wrong prog_10_method_3_code 2 none :: z_W
def kr_Mo_wrong : Room := { frames := 0, cells := 0, slots := 0, locals := 0 }
abbrev km_Mo_sign : MethodName := ⟨"ViewRoundsModel", "sign", "()I"⟩
abbrev ks_Mo_sign : List Cond := .code km_Mo_sign prog_10_method_4_code 1 (some .int) :: z_W
def kr_Mo_sign : Room := { frames := 0, cells := 0, slots := 0, locals := 0 }
abbrev km_Mo_take : MethodName := ⟨"ViewRoundsModel", "take", "(I)V"⟩
abbrev ks_Mo_take : List Cond := .code km_Mo_take prog_10_method_5_code 2 none :: z_W
def kr_Mo_take : Room := { frames := 1, cells := 0, slots := 0, locals := 21 }
abbrev km_Mo_count : MethodName := ⟨"ViewRoundsModel", "count", "(I)I"⟩
abbrev ks_Mo_count : List Cond := .code km_Mo_count prog_10_method_6_code 3 (some .int) :: z_W
def kr_Mo_count : Room := { frames := 0, cells := 0, slots := 0, locals := 0 }
abbrev km_Mo_isName : MethodName := ⟨"ViewRoundsModel", "isName", "(I)Z"⟩
abbrev ks_Mo_isName : List Cond := .code km_Mo_isName prog_10_method_7_code 1 (some .boolean) :: z_W
def kr_Mo_isName : Room := { frames := 0, cells := 0, slots := 0, locals := 0 }
abbrev km_Mo_isVariable : MethodName := ⟨"ViewRoundsModel", "isVariable", "(I)Z"⟩
abbrev ks_Mo_isVariable : List Cond := .code km_Mo_isVariable prog_10_method_8_code 1 (some .boolean) :: z_W
def kr_Mo_isVariable : Room := { frames := 0, cells := 0, slots := 0, locals := 0 }
abbrev km_Mo_isDigit : MethodName := ⟨"ViewRoundsModel", "isDigit", "(I)Z"⟩
abbrev ks_Mo_isDigit : List Cond := .code km_Mo_isDigit prog_10_method_9_code 1 (some .boolean) :: z_W
def kr_Mo_isDigit : Room := { frames := 0, cells := 0, slots := 0, locals := 0 }
abbrev km_Mo_relationAt : MethodName := ⟨"ViewRoundsModel", "relationAt", "()I"⟩
abbrev ks_Mo_relationAt : List Cond := .code km_Mo_relationAt prog_10_method_10_code 3 (some .int) :: z_W
def kr_Mo_relationAt : Room := { frames := 1, cells := 0, slots := 0, locals := 21 }
abbrev km_Mo_term : MethodName := ⟨"ViewRoundsModel", "term", "(I)I"⟩
abbrev ks_Mo_term : List Cond := .code km_Mo_term prog_10_method_11_code 5 (some .int) :: z_W
def kr_Mo_term : Room := { frames := 1, cells := 0, slots := 0, locals := 22 }
abbrev km_Mo_terms : MethodName := ⟨"ViewRoundsModel", "terms", "(II[IIZ)V"⟩
abbrev ks_Mo_terms : List Cond := .code km_Mo_terms prog_10_method_12_code 10 none :: z_W
def kr_Mo_terms : Room := { frames := 2, cells := 0, slots := 0, locals := 46 }
abbrev km_Mo_literal : MethodName := ⟨"ViewRoundsModel", "literal", "(I)V"⟩
abbrev ks_Mo_literal : List Cond := .code km_Mo_literal prog_10_method_13_code 8 none :: z_W
def kr_Mo_literal : Room := { frames := 3, cells := 0, slots := 0, locals := 75 }
abbrev km_Mo_lettersOf : MethodName := ⟨"ViewRoundsModel", "lettersOf", "([II)I"⟩
abbrev ks_Mo_lettersOf : List Cond := .code km_Mo_lettersOf prog_10_method_14_code 4 (some .int) :: z_W
def kr_Mo_lettersOf : Room := { frames := 0, cells := 0, slots := 0, locals := 0 }
abbrev km_Mo_rule : MethodName := ⟨"ViewRoundsModel", "rule", "()V"⟩
abbrev ks_Mo_rule : List Cond := .code km_Mo_rule prog_10_method_15_code 2 none :: z_W
def kr_Mo_rule : Room := { frames := 4, cells := 0, slots := 0, locals := 102 }
abbrev km_Mo_judge : MethodName := ⟨"ViewRoundsModel", "judge", "(I)V"⟩
abbrev ks_Mo_judge : List Cond := .code km_Mo_judge prog_10_method_16_code 7 none :: z_W
def kr_Mo_judge : Room := { frames := 1, cells := 0, slots := 0, locals := 23 }
abbrev km_Mo_isStrict : MethodName := ⟨"ViewRoundsModel", "isStrict", "(II)Z"⟩
abbrev ks_Mo_isStrict : List Cond := .code km_Mo_isStrict prog_10_method_17_code 3 (some .boolean) :: z_W
def kr_Mo_isStrict : Room := { frames := 0, cells := 0, slots := 0, locals := 0 }
abbrev km_Mo_layers : MethodName := ⟨"ViewRoundsModel", "layers", "()Z"⟩
abbrev ks_Mo_layers : List Cond := .code km_Mo_layers prog_10_method_18_code 6 (some .boolean) :: z_W
def kr_Mo_layers : Room := { frames := 1, cells := 0, slots := 0, locals := 22 }
abbrev km_Mo_reaches : MethodName := ⟨"ViewRoundsModel", "reaches", "()V"⟩
abbrev ks_Mo_reaches : List Cond := .code km_Mo_reaches prog_10_method_19_code 4 none :: z_W
def kr_Mo_reaches : Room := { frames := 0, cells := 0, slots := 0, locals := 0 }
abbrev km_Mo_isBadRing : MethodName := ⟨"ViewRoundsModel", "isBadRing", "(I)Z"⟩
abbrev ks_Mo_isBadRing : List Cond := .code km_Mo_isBadRing prog_10_method_20_code 7 (some .boolean) :: z_W
def kr_Mo_isBadRing : Room := { frames := 1, cells := 0, slots := 0, locals := 22 }
abbrev km_Mo_findRing : MethodName := ⟨"ViewRoundsModel", "findRing", "()V"⟩
abbrev ks_Mo_findRing : List Cond := .code km_Mo_findRing prog_10_method_21_code 3 none :: z_W
def kr_Mo_findRing : Room := { frames := 2, cells := 0, slots := 0, locals := 48 }
abbrev km_Mo_base : MethodName := ⟨"ViewRoundsModel", "base", "(II)I"⟩
abbrev ks_Mo_base : List Cond := .code km_Mo_base prog_10_method_22_code 3 (some .int) :: z_W
def kr_Mo_base : Room := { frames := 0, cells := 0, slots := 0, locals := 0 }
abbrev km_Mo_compare : MethodName := ⟨"ViewRoundsModel", "compare", "(IIIII)I"⟩
abbrev ks_Mo_compare : List Cond := .code km_Mo_compare prog_10_method_23_code 8 (some .int) :: z_W
def kr_Mo_compare : Room := { frames := 1, cells := 0, slots := 0, locals := 22 }
abbrev km_Mo_find : MethodName := ⟨"ViewRoundsModel", "find", "(IIII)I"⟩
abbrev ks_Mo_find : List Cond := .code km_Mo_find prog_10_method_24_code 6 (some .int) :: z_W
def kr_Mo_find : Room := { frames := 2, cells := 0, slots := 0, locals := 49 }
abbrev km_Mo_insert : MethodName := ⟨"ViewRoundsModel", "insert", "(IIIII)Z"⟩
abbrev ks_Mo_insert : List Cond := .code km_Mo_insert prog_10_method_25_code 8 (some .boolean) :: z_W
def kr_Mo_insert : Room := { frames := 2, cells := 0, slots := 0, locals := 49 }
abbrev km_Mo_move : MethodName := ⟨"ViewRoundsModel", "move", "(III)V"⟩
abbrev ks_Mo_move : List Cond := .code km_Mo_move prog_10_method_26_code 5 none :: z_W
def kr_Mo_move : Room := { frames := 1, cells := 0, slots := 0, locals := 22 }
abbrev km_Mo_remove : MethodName := ⟨"ViewRoundsModel", "remove", "(II)V"⟩
abbrev ks_Mo_remove : List Cond := .code km_Mo_remove prog_10_method_27_code 4 none :: z_W
def kr_Mo_remove : Room := { frames := 2, cells := 0, slots := 0, locals := 46 }
abbrev km_Mo_begin : MethodName := ⟨"ViewRoundsModel", "begin", "(I)V"⟩
abbrev ks_Mo_begin : List Cond := .code km_Mo_begin prog_10_method_28_code 3 none :: z_W
def kr_Mo_begin : Room := { frames := 0, cells := 0, slots := 0, locals := 0 }
abbrev km_Mo_valueOf : MethodName := ⟨"ViewRoundsModel", "valueOf", "(II)I"⟩
abbrev ks_Mo_valueOf : List Cond := .code km_Mo_valueOf prog_10_method_29_code 3 (some .int) :: z_W
def kr_Mo_valueOf : Room := { frames := 0, cells := 0, slots := 0, locals := 0 }
abbrev km_Mo_fits : MethodName := ⟨"ViewRoundsModel", "fits", "(III)Z"⟩
abbrev ks_Mo_fits : List Cond := .code km_Mo_fits prog_10_method_30_code 8 (some .boolean) :: z_W
def kr_Mo_fits : Room := { frames := 1, cells := 0, slots := 0, locals := 22 }
abbrev km_Mo_holds : MethodName := ⟨"ViewRoundsModel", "holds", "()Z"⟩
abbrev ks_Mo_holds : List Cond := .code km_Mo_holds prog_10_method_31_code 5 (some .boolean) :: z_W
def kr_Mo_holds : Room := { frames := 3, cells := 0, slots := 0, locals := 74 }
abbrev km_Mo_next : MethodName := ⟨"ViewRoundsModel", "next", "()Z"⟩
abbrev ks_Mo_next : List Cond := .code km_Mo_next prog_10_method_32_code 3 (some .boolean) :: z_W
def kr_Mo_next : Room := { frames := 4, cells := 0, slots := 0, locals := 98 }
abbrev km_Mo_headValue : MethodName := ⟨"ViewRoundsModel", "headValue", "(I)I"⟩
abbrev ks_Mo_headValue : List Cond := .code km_Mo_headValue prog_10_method_33_code 3 (some .int) :: z_W
def kr_Mo_headValue : Room := { frames := 1, cells := 0, slots := 0, locals := 22 }
abbrev km_Mo_markOf : MethodName := ⟨"ViewRoundsModel", "markOf", "(I)I"⟩
abbrev ks_Mo_markOf : List Cond := .code km_Mo_markOf prog_10_method_34_code 4 (some .int) :: z_W
def kr_Mo_markOf : Room := { frames := 0, cells := 0, slots := 0, locals := 0 }
abbrev km_Mo_countRule : MethodName := ⟨"ViewRoundsModel", "countRule", "(I)Z"⟩
abbrev ks_Mo_countRule : List Cond := .code km_Mo_countRule prog_10_method_35_code 7 (some .boolean) :: z_W
def kr_Mo_countRule : Room := { frames := 5, cells := 0, slots := 0, locals := 120 }
abbrev km_Mo_plainRule : MethodName := ⟨"ViewRoundsModel", "plainRule", "(I)I"⟩
abbrev ks_Mo_plainRule : List Cond := .code km_Mo_plainRule prog_10_method_36_code 7 (some .int) :: z_W
def kr_Mo_plainRule : Room := { frames := 5, cells := 0, slots := 0, locals := 120 }
abbrev km_Mo_work : MethodName := ⟨"ViewRoundsModel", "work", "()Z"⟩
abbrev ks_Mo_work : List Cond := .code km_Mo_work prog_10_method_37_code 5 (some .boolean) :: z_W
def kr_Mo_work : Room := { frames := 6, cells := 0, slots := 0, locals := 146 }
abbrev km_Mo_keep : MethodName := ⟨"ViewRoundsModel", "keep", "()V"⟩
abbrev ks_Mo_keep : List Cond := .code km_Mo_keep prog_10_method_38_code 2 none :: z_W
def kr_Mo_keep : Room := { frames := 0, cells := 0, slots := 0, locals := 0 }
abbrev km_Mo_back : MethodName := ⟨"ViewRoundsModel", "back", "()V"⟩
abbrev ks_Mo_back : List Cond := .code km_Mo_back prog_10_method_39_code 2 none :: z_W
def kr_Mo_back : Room := { frames := 0, cells := 0, slots := 0, locals := 0 }
abbrev km_Mo_sum : MethodName := ⟨"ViewRoundsModel", "sum", "([IIII)V"⟩
abbrev ks_Mo_sum : List Cond := .code km_Mo_sum prog_10_method_40_code 9 none :: z_W
def kr_Mo_sum : Room := { frames := 0, cells := 0, slots := 0, locals := 0 }
abbrev km_Mo_apply : MethodName := ⟨"ViewRoundsModel", "apply", "()I"⟩
abbrev ks_Mo_apply : List Cond := .code km_Mo_apply prog_10_method_41_code 7 (some .int) :: z_W
def kr_Mo_apply : Room := { frames := 7, cells := 0, slots := 0, locals := 170 }
abbrev km_Mo_differ : MethodName := ⟨"ViewRoundsModel", "differ", "(IIIII)V"⟩
abbrev ks_Mo_differ : List Cond := .code km_Mo_differ prog_10_method_42_code 7 none :: z_W
def kr_Mo_differ : Room := { frames := 0, cells := 0, slots := 0, locals := 0 }
abbrev km_Mo_compareAll : MethodName := ⟨"ViewRoundsModel", "compareAll", "()V"⟩
abbrev ks_Mo_compareAll : List Cond := .code km_Mo_compareAll prog_10_method_43_code 7 none :: z_W
def kr_Mo_compareAll : Room := { frames := 2, cells := 0, slots := 0, locals := 49 }
abbrev km_Mo_feed : MethodName := ⟨"ViewRoundsModel", "feed", "(JI)I"⟩
abbrev ks_Mo_feed : List Cond := .code km_Mo_feed prog_10_method_44_code 5 (some .int) :: z_W
def kr_Mo_feed : Room := { frames := 1, cells := 0, slots := 0, locals := 22 }
abbrev km_Mo_forget : MethodName := ⟨"ViewRoundsModel", "forget", "()V"⟩
abbrev ks_Mo_forget : List Cond := .code km_Mo_forget prog_10_method_45_code 2 none :: z_W
def kr_Mo_forget : Room := { frames := 0, cells := 0, slots := 0, locals := 0 }
abbrev km_Mo_parse : MethodName := ⟨"ViewRoundsModel", "parse", "()I"⟩
abbrev ks_Mo_parse : List Cond := .code km_Mo_parse prog_10_method_46_code 3 (some .int) :: z_W
def kr_Mo_parse : Room := { frames := 7, cells := 0, slots := 0, locals := 170 }
abbrev km_Mo_ringMany : MethodName := ⟨"ViewRoundsModel", "ringMany", "()V"⟩
abbrev ks_Mo_ringMany : List Cond := .code km_Mo_ringMany prog_10_method_47_code 2 none :: z_W
def kr_Mo_ringMany : Room := { frames := 0, cells := 0, slots := 0, locals := 0 }
abbrev km_Mo_place : MethodName := ⟨"ViewRoundsModel", "place", "()I"⟩
abbrev ks_Mo_place : List Cond := .code km_Mo_place prog_10_method_48_code 1 (some .int) :: z_W
def kr_Mo_place : Room := { frames := 0, cells := 0, slots := 0, locals := 0 }
abbrev km_Mo_ring : MethodName := ⟨"ViewRoundsModel", "ring", "(I)I"⟩
abbrev ks_Mo_ring : List Cond := .code km_Mo_ring prog_10_method_49_code 2 (some .int) :: z_W
def kr_Mo_ring : Room := { frames := 1, cells := 0, slots := 0, locals := 22 }
abbrev km_Mo_relation : MethodName := ⟨"ViewRoundsModel", "relation", "(I)I"⟩
abbrev ks_Mo_relation : List Cond := .code km_Mo_relation prog_10_method_50_code 3 (some .int) :: z_W
def kr_Mo_relation : Room := { frames := 0, cells := 0, slots := 0, locals := 0 }
abbrev km_Mo_isRelation : MethodName := ⟨"ViewRoundsModel", "isRelation", "(I)Z"⟩
abbrev ks_Mo_isRelation : List Cond := .code km_Mo_isRelation prog_10_method_51_code 2 (some .boolean) :: z_W
def kr_Mo_isRelation : Room := { frames := 1, cells := 0, slots := 0, locals := 22 }
abbrev km_Mo_of : MethodName := ⟨"ViewRoundsModel", "of", "(II)I"⟩
abbrev ks_Mo_of : List Cond := .code km_Mo_of prog_10_method_52_code 3 (some .int) :: z_W
def kr_Mo_of : Room := { frames := 2, cells := 0, slots := 0, locals := 43 }
abbrev km_Mo_given : MethodName := ⟨"ViewRoundsModel", "given", "(III)I"⟩
abbrev ks_Mo_given : List Cond := .code km_Mo_given prog_10_method_53_code 4 (some .int) :: z_W
def kr_Mo_given : Room := { frames := 0, cells := 0, slots := 0, locals := 0 }
abbrev km_Mo_areValues : MethodName := ⟨"ViewRoundsModel", "areValues", "(IIII)Z"⟩
abbrev ks_Mo_areValues : List Cond := .code km_Mo_areValues prog_10_method_54_code 5 (some .boolean) :: z_W
def kr_Mo_areValues : Room := { frames := 1, cells := 0, slots := 0, locals := 23 }
abbrev km_Mo_change : MethodName := ⟨"ViewRoundsModel", "change", "(IIIII)I"⟩
abbrev ks_Mo_change : List Cond := .code km_Mo_change prog_10_method_55_code 7 (some .int) :: z_W
def kr_Mo_change : Room := { frames := 2, cells := 0, slots := 0, locals := 47 }
abbrev km_Mo_batch : MethodName := ⟨"ViewRoundsModel", "batch", "()I"⟩
abbrev ks_Mo_batch : List Cond := .code km_Mo_batch prog_10_method_56_code 4 (some .int) :: z_W
def kr_Mo_batch : Room := { frames := 8, cells := 0, slots := 0, locals := 196 }
abbrev km_Mo_drop : MethodName := ⟨"ViewRoundsModel", "drop", "()I"⟩
abbrev ks_Mo_drop : List Cond := .code km_Mo_drop prog_10_method_57_code 2 (some .int) :: z_W
def kr_Mo_drop : Room := { frames := 0, cells := 0, slots := 0, locals := 0 }
abbrev km_Mo_difference : MethodName := ⟨"ViewRoundsModel", "difference", "(II)I"⟩
abbrev ks_Mo_difference : List Cond := .code km_Mo_difference prog_10_method_58_code 3 (some .int) :: z_W
def kr_Mo_difference : Room := { frames := 1, cells := 0, slots := 0, locals := 22 }
abbrev km_Mo_undo : MethodName := ⟨"ViewRoundsModel", "undo", "()I"⟩
abbrev ks_Mo_undo : List Cond := .code km_Mo_undo prog_10_method_59_code 2 (some .int) :: z_W
def kr_Mo_undo : Room := { frames := 8, cells := 0, slots := 0, locals := 196 }
abbrev km_Mo_has : MethodName := ⟨"ViewRoundsModel", "has", "(IIII)I"⟩
abbrev ks_Mo_has : List Cond := .code km_Mo_has prog_10_method_60_code 6 (some .int) :: z_W
def kr_Mo_has : Room := { frames := 3, cells := 0, slots := 0, locals := 74 }
abbrev km_Mo_row : MethodName := ⟨"ViewRoundsModel", "row", "(III)I"⟩
abbrev ks_Mo_row : List Cond := .code km_Mo_row prog_10_method_61_code 4 (some .int) :: z_W
def kr_Mo_row : Room := { frames := 2, cells := 0, slots := 0, locals := 43 }
abbrev km_Mo_isCounted : MethodName := ⟨"ViewRoundsModel", "isCounted", "(I)Z"⟩
abbrev ks_Mo_isCounted : List Cond := .code km_Mo_isCounted prog_10_method_62_code 4 (some .boolean) :: z_W
def kr_Mo_isCounted : Room := { frames := 0, cells := 0, slots := 0, locals := 0 }
abbrev km_Mo_leads : MethodName := ⟨"ViewRoundsModel", "leads", "(III)Z"⟩
abbrev ks_Mo_leads : List Cond := .code km_Mo_leads prog_10_method_63_code 4 (some .boolean) :: z_W
def kr_Mo_leads : Room := { frames := 2, cells := 0, slots := 0, locals := 44 }
abbrev km_Mo_derivations : MethodName := ⟨"ViewRoundsModel", "derivations", "(IIII)I"⟩
abbrev ks_Mo_derivations : List Cond := .code km_Mo_derivations prog_10_method_64_code 9 (some .int) :: z_W
def kr_Mo_derivations : Room := { frames := 5, cells := 0, slots := 0, locals := 120 }
abbrev km_Mo_isLess : MethodName := ⟨"ViewRoundsModel", "isLess", "()Z"⟩
abbrev ks_Mo_isLess : List Cond := .code km_Mo_isLess prog_10_method_65_code 3 (some .boolean) :: z_W
def kr_Mo_isLess : Room := { frames := 0, cells := 0, slots := 0, locals := 0 }
abbrev km_Mo_why : MethodName := ⟨"ViewRoundsModel", "why", "(IIIII)I"⟩
abbrev ks_Mo_why : List Cond := .code km_Mo_why prog_10_method_66_code 11 (some .int) :: z_W
def kr_Mo_why : Room := { frames := 5, cells := 0, slots := 0, locals := 120 }
abbrev km_Mo_tell : MethodName := ⟨"ViewRoundsModel", "tell", "(II)I"⟩
abbrev ks_Mo_tell : List Cond := .code km_Mo_tell prog_10_method_67_code 6 (some .int) :: z_W
def kr_Mo_tell : Room := { frames := 0, cells := 0, slots := 0, locals := 0 }
abbrev km_Mo_anew : MethodName := ⟨"ViewRoundsModel", "anew", "()Z"⟩
abbrev ks_Mo_anew : List Cond := .code km_Mo_anew prog_10_method_68_code 1 (some .boolean) :: z_W
def kr_Mo_anew : Room := { frames := 0, cells := 0, slots := 0, locals := 0 }
abbrev km_Mo_told : MethodName := ⟨"ViewRoundsModel", "told", "(I)I"⟩
abbrev ks_Mo_told : List Cond := .code km_Mo_told prog_10_method_69_code 4 (some .int) :: z_W
def kr_Mo_told : Room := { frames := 1, cells := 0, slots := 0, locals := 22 }
