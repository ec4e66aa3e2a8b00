/**
 * Views over tables by rules with recursion, negation and counts, kept up batch by batch.
 * A batch is tried on a second set of rows, which takes the place of the first one only if all fits.
 */
public final class ViewRounds {
    public static final int NONE = -1, BAD = -2, FULL = -3, STATE = -4;

    private static final int MOST_TEXT = 600;
    private static final int MOST_RELATIONS = 8;
    private static final int MOST_RULES = 16;
    private static final int MOST_LITERALS = 5;
    private static final int MOST_POSITIVE = 3;
    private static final int MOST_VARIABLES = 6;
    private static final int MOST_TERMS = 3;
    private static final int MOST_DIGITS = 3;
    private static final int MOST_ROWS = 40;
    private static final int MOST_CHANGES = 60;
    private static final int MOST_COUNT = 9;
    private static final int MOST_VALUE = 999;
    private static final int MOST_TAKEN_BACK = 6;
    private static final int LETTERS = 26;

    /** A table holds its old rows and those of a whole batch until the sums are known. */
    private static final int ROOM = MOST_ROWS + MOST_CHANGES;
    private static final int MOST_VIEW_ROWS = MOST_RELATIONS * MOST_ROWS;

    private static final int POSITIVE = 0, NEGATIVE = 1, CONDITION = 2;
    private static final int WRONG_SIGN = 1, OTHER_TERMS = 2, TOO_MANY = 3, LOOSE_VARIABLE = 4, LONE_COUNT = 5, NO_LAYERS = 6;
    private static final int TEXT_END = -1;

    private final byte[] text = new byte[MOST_TEXT];
    private int length;
    private int faultPlace = NONE;
    private final int[] ringNames = new int[MOST_RELATIONS];
    private int ringSize;
    private Program program = new Program();
    private Rows[] now = new Rows[MOST_RELATIONS];
    private Rows[] next = new Rows[MOST_RELATIONS];
    private SignedRows underWay = new SignedRows(MOST_CHANGES);
    private final SignedRows[] done = new SignedRows[MOST_TAKEN_BACK];
    private int doneSize;
    private final SignedRows latest = new SignedRows(2 * MOST_VIEW_ROWS);
    private final Engine engine = new Engine();

    public ViewRounds() {
        for (int i = 0; i < MOST_RELATIONS; i++) {
            now[i] = new Rows();
            next[i] = new Rows();
        }
        for (int i = 0; i < MOST_TAKEN_BACK; i++) {
            done[i] = new SignedRows(MOST_CHANGES);
        }
    }

    public int feed(long bytes, int n) {
        if (n < 1 || n > 8) {
            return BAD;
        }
        if (length + n > MOST_TEXT) {
            return FULL;
        }
        for (int i = 0; i < n; i++) {
            text[length + i] = (byte) (bytes >>> (8 * i));
        }
        length += n;
        return length;
    }

    public int parse() {
        Reader reader = new Reader(text, length);
        reader.readRules();
        length = 0;
        forgetRules();
        if (reader.fault != 0) {
            keepFault(reader);
            return -10 - reader.fault;
        }
        for (int i = 0; i < MOST_RELATIONS; i++) {
            next[i].size = 0;
        }
        if (!engine.workViews(reader.program, next)) {
            return FULL;
        }
        program = reader.program;
        takeNext();
        return program.ruleCount;
    }

    public int place() {
        return faultPlace;
    }

    public int ring(int k) {
        return k < 0 || k >= ringSize ? NONE : ringNames[k];
    }

    public int relation(int name) {
        if (hasNoRules()) {
            return STATE;
        }
        return program.relationNamed(name);
    }

    public int of(int relation, int what) {
        if (hasNoRules()) {
            return STATE;
        }
        if (!program.isRelation(relation)) {
            return BAD;
        }
        switch (what) {
            case 0:
                return program.isView(relation) ? 1 : 0;
            case 1:
                return program.terms[relation];
            case 2:
                return program.layers[relation];
            case 3:
                return now[relation].size;
            case 4:
                return isIn(program.reach[relation], relation) ? 1 : 0;
            default:
                return BAD;
        }
    }

    public int change(int table, int a, int b, int c, int sign) {
        if (hasNoRules()) {
            return STATE;
        }
        if (!program.isRelation(table) || program.isView(table) || (sign != 1 && sign != -1)) {
            return BAD;
        }
        int key = pack(program.terms[table], a, b, c);
        if (key < 0) {
            return BAD;
        }
        if (underWay.size >= MOST_CHANGES) {
            return FULL;
        }
        underWay.append(table, key, sign);
        return underWay.size;
    }

    public int batch() {
        if (hasNoRules()) {
            return STATE;
        }
        int answer = settle(underWay, 1);
        if (answer >= 0) {
            keepForTakingBack();
        }
        underWay.size = 0;
        return answer;
    }

    public int drop() {
        if (hasNoRules()) {
            return STATE;
        }
        int had = underWay.size;
        underWay.size = 0;
        return had;
    }

    public int difference(int k, int what) {
        if (hasNoRules()) {
            return STATE;
        }
        if (what < 0 || what > 4) {
            return BAD;
        }
        if (k < 0 || k >= latest.size) {
            return NONE;
        }
        if (what == 0) {
            return latest.relations[k];
        }
        return what == 4 ? latest.signs[k] : valueAt(latest.keys[k], what - 1);
    }

    public int undo() {
        if (hasNoRules()) {
            return STATE;
        }
        if (doneSize < 1) {
            return NONE;
        }
        int answer = settle(done[doneSize - 1], -1);
        if (answer >= 0) {
            doneSize--;
        }
        return answer;
    }

    public int has(int relation, int a, int b, int c) {
        if (hasNoRules()) {
            return STATE;
        }
        if (!program.isRelation(relation)) {
            return BAD;
        }
        int key = pack(program.terms[relation], a, b, c);
        return key < 0 ? BAD : now[relation].countOf(key);
    }

    public int row(int relation, int k, int what) {
        if (hasNoRules()) {
            return STATE;
        }
        if (!program.isRelation(relation) || what < 0 || what > 3) {
            return BAD;
        }
        Rows rows = now[relation];
        if (k < 0 || k >= rows.size) {
            return NONE;
        }
        return what == 3 ? rows.counts[k] : valueAt(rows.keys[k], what);
    }

    public int derivations(int view, int a, int b, int c) {
        if (hasNoRules()) {
            return STATE;
        }
        if (!program.isView(view)) {
            return BAD;
        }
        int key = pack(program.terms[view], a, b, c);
        if (key < 0) {
            return BAD;
        }
        if (!program.isCounted(view)) {
            return engine.countDerivations(program, now, view, key);
        }
        return now[view].countOf(key) == 0 ? 0 : valueAt(key, program.terms[view] - 1);
    }

    public int why(int view, int a, int b, int c, int what) {
        if (hasNoRules()) {
            return STATE;
        }
        if (!program.isView(view) || program.isCounted(view) || what < 0 || what > 7) {
            return BAD;
        }
        int key = pack(program.terms[view], a, b, c);
        if (key < 0) {
            return BAD;
        }
        int rule = engine.findLeast(program, now, view, key);
        if (rule < 0) {
            return NONE;
        }
        int variables = program.rules[rule].variables;
        if (what < 2) {
            return what == 0 ? rule : variables;
        }
        return what - 2 < variables ? engine.least[what - 2] : NONE;
    }

    public boolean anew() {
        if (hasNoRules()) {
            return false;
        }
        copyTables();
        return engine.workViews(program, next) && viewsAreTheSame();
    }

    public int told(int what) {
        switch (what) {
            case 0:
                return program.ruleCount;
            case 1:
                return program.relations;
            case 2:
                return underWay.size;
            case 3:
                return latest.size;
            case 4:
                return doneSize;
            case 5:
                return program.topLayer;
            default:
                return BAD;
        }
    }

    private boolean hasNoRules() {
        return program.ruleCount == 0;
    }

    private void forgetRules() {
        program = new Program();
        faultPlace = NONE;
        ringSize = 0;
        underWay.size = 0;
        doneSize = 0;
        latest.size = 0;
    }

    private void keepFault(Reader reader) {
        faultPlace = reader.faultPlace;
        for (int i = 0; i < reader.program.relations; i++) {
            if (isIn(reader.program.ring, i)) {
                ringNames[ringSize] = reader.program.names[i];
                ringSize++;
            }
        }
    }

    /** Tries changes, or with direction -1 their contrary, on the second set of rows. */
    private int settle(SignedRows changes, int direction) {
        copyTables();
        for (int i = 0; i < changes.size; i++) {
            next[changes.relations[i]].add(changes.keys[i], direction * changes.signs[i]);
        }
        boolean tooMany = false;
        for (int i = 0; i < program.relations; i++) {
            if (!program.isView(i)) {
                if (!next[i].dropZeros()) {
                    return BAD;
                }
                tooMany = tooMany || next[i].size > MOST_ROWS;
            }
        }
        if (tooMany || !engine.workViews(program, next)) {
            return FULL;
        }
        latest.size = 0;
        for (int i = 0; i < program.relations; i++) {
            if (program.isView(i)) {
                noteDifferences(i, now[i], next[i]);
            }
        }
        takeNext();
        return latest.size;
    }

    private void noteDifferences(int view, Rows before, Rows after) {
        int old = 0;
        int fresh = 0;
        for (int i = 0; i < 2 * MOST_ROWS && (old < before.size || fresh < after.size); i++) {
            boolean goes = fresh >= after.size || (old < before.size && before.keys[old] < after.keys[fresh]);
            boolean comes = !goes && (old >= before.size || after.keys[fresh] < before.keys[old]);
            if (goes) {
                latest.append(view, before.keys[old], -1);
            } else if (comes) {
                latest.append(view, after.keys[fresh], 1);
            }
            old += comes ? 0 : 1;
            fresh += goes ? 0 : 1;
        }
    }

    /** The oldest of six gives its room to the batch that comes after this one. */
    private void keepForTakingBack() {
        if (doneSize == MOST_TAKEN_BACK) {
            SignedRows oldest = done[0];
            for (int i = 1; i < MOST_TAKEN_BACK; i++) {
                done[i - 1] = done[i];
            }
            done[MOST_TAKEN_BACK - 1] = oldest;
            doneSize--;
        }
        SignedRows free = done[doneSize];
        done[doneSize] = underWay;
        underWay = free;
        doneSize++;
    }

    private void copyTables() {
        for (int i = 0; i < program.relations; i++) {
            if (!program.isView(i)) {
                next[i].copy(now[i]);
            }
        }
    }

    private void takeNext() {
        Rows[] before = now;
        now = next;
        next = before;
    }

    private boolean viewsAreTheSame() {
        for (int i = 0; i < program.relations; i++) {
            if (program.isView(i) && !now[i].isSame(next[i])) {
                return false;
            }
        }
        return true;
    }

    private static boolean isIn(int mask, int index) {
        return (mask & (1 << index)) != 0;
    }

    private static int weight(int index) {
        if (index == 0) {
            return 1000000;
        }
        return index == 1 ? 1000 : 1;
    }

    private static int valueAt(int key, int index) {
        if (index == 0) {
            return key / 1000000;
        }
        return index == 1 ? key / 1000 % 1000 : key % 1000;
    }

    /** One number for a row, so that numbers rise as rows do; NONE if a value is outside. */
    private static int pack(int terms, int a, int b, int c) {
        int second = terms > 1 ? b : 0;
        int third = terms > 2 ? c : 0;
        boolean inside = isValue(a) && isValue(second) && isValue(third);
        return inside ? a * 1000000 + second * 1000 + third : NONE;
    }

    private static boolean isValue(int value) {
        return value >= 0 && value <= MOST_VALUE;
    }

    /** A head, a literal with a name, or a condition. A term is a number, or -1 less a variable's letter. */
    private static final class Atom {
        final int[] terms = new int[MOST_TERMS];
        int size;
        int kind;
        int relation;
        int operator;
        int letters;

        void append(int term) {
            if (size >= MOST_TERMS) {
                return;
            }
            terms[size] = term;
            size++;
            if (term < 0) {
                letters |= 1 << (-1 - term);
            }
        }
    }

    private static final class Rule {
        final Atom head = new Atom();
        final Atom[] body = new Atom[MOST_LITERALS];
        int size;
        int positive;
        boolean counted;
        int letters;
        int variables;

        void append(Atom literal) {
            if (size >= MOST_LITERALS) {
                return;
            }
            body[size] = literal;
            size++;
            positive += literal.kind == POSITIVE ? 1 : 0;
        }

        boolean takesVariable(int letter) {
            if (isIn(letters, letter)) {
                return true;
            }
            if (variables >= MOST_VARIABLES) {
                return false;
            }
            letters |= 1 << letter;
            variables++;
            return true;
        }

        boolean hasLooseVariable() {
            int held = 0;
            int wanted = head.letters;
            for (int i = 0; i < size; i++) {
                if (body[i].kind == POSITIVE) {
                    held |= body[i].letters;
                } else {
                    wanted |= body[i].letters;
                }
            }
            return (wanted & ~held) != 0;
        }

        /** Tests go as far to the front as their variables are known, so that a search ends early. */
        void arrange() {
            int known = 0;
            for (int i = 0; i < size; i++) {
                int chosen = nextLiteral(i, known);
                Atom literal = body[chosen];
                for (int j = chosen; j > i; j--) {
                    body[j] = body[j - 1];
                }
                body[i] = literal;
                known |= literal.letters;
            }
        }

        private int nextLiteral(int from, int known) {
            int chosen = from;
            boolean found = false;
            for (int i = from; i < size; i++) {
                if (body[i].kind != POSITIVE && (body[i].letters & ~known) == 0) {
                    return i;
                }
                if (body[i].kind == POSITIVE && !found) {
                    chosen = i;
                    found = true;
                }
            }
            return chosen;
        }
    }

    /** The rules, and what they say of their relations. */
    private static final class Program {
        final Rule[] rules = new Rule[MOST_RULES];
        int ruleCount;
        final int[] names = new int[MOST_RELATIONS];
        final int[] terms = new int[MOST_RELATIONS];
        final int[] layers = new int[MOST_RELATIONS];
        final int[] reach = new int[MOST_RELATIONS];
        int relations;
        int topLayer;
        int ring;
        private int views;
        private int countedViews;

        boolean isRelation(int relation) {
            return relation >= 0 && relation < relations;
        }

        boolean isView(int relation) {
            return isRelation(relation) && isIn(views, relation);
        }

        boolean isCounted(int relation) {
            return isRelation(relation) && isIn(countedViews, relation);
        }

        int relationNamed(int name) {
            for (int i = 0; i < relations; i++) {
                if (names[i] == name) {
                    return i;
                }
            }
            return NONE;
        }

        int relationMade(int name) {
            int known = relationNamed(name);
            if (known != NONE || relations >= MOST_RELATIONS) {
                return known;
            }
            names[relations] = name;
            relations++;
            return relations - 1;
        }

        boolean refusesCount(Rule rule) {
            if (rule.counted && (rule.size == 0 || isView(rule.head.relation))) {
                return true;
            }
            return isCounted(rule.head.relation);
        }

        void append(Rule rule) {
            if (ruleCount >= MOST_RULES) {
                return;
            }
            rules[ruleCount] = rule;
            ruleCount++;
            views |= 1 << rule.head.relation;
            if (rule.counted) {
                countedViews |= 1 << rule.head.relation;
            }
        }

        boolean findLayers() {
            findReach();
            findRing();
            if (ring != 0) {
                return false;
            }
            for (int i = 0; i < relations; i++) {
                layers[i] = isView(i) ? 1 : 0;
            }
            // no way without a ring has more steps than there are relations
            for (int turn = 0; turn < MOST_RELATIONS; turn++) {
                raiseLayers();
            }
            for (int i = 0; i < relations; i++) {
                topLayer = Math.max(topLayer, layers[i]);
            }
            return true;
        }

        private void findReach() {
            for (int i = 0; i < ruleCount; i++) {
                Rule rule = rules[i];
                for (int j = 0; j < rule.size; j++) {
                    if (rule.body[j].kind != CONDITION) {
                        reach[rule.head.relation] |= 1 << rule.body[j].relation;
                    }
                }
            }
            for (int via = 0; via < relations; via++) {
                for (int i = 0; i < relations; i++) {
                    if (isIn(reach[i], via)) {
                        reach[i] |= reach[via];
                    }
                }
            }
        }

        private void findRing() {
            for (int i = 0; i < ruleCount; i++) {
                Rule rule = rules[i];
                int head = rule.head.relation;
                for (int j = 0; j < rule.size; j++) {
                    Atom literal = rule.body[j];
                    if (mustLieBelow(rule, literal) && isIn(reach[literal.relation], head)) {
                        chooseRing(ringThrough(head));
                    }
                }
            }
        }

        private boolean mustLieBelow(Rule rule, Atom literal) {
            return literal.kind == NEGATIVE || (literal.kind == POSITIVE && rule.counted);
        }

        private int ringThrough(int relation) {
            int mask = 0;
            for (int i = 0; i < relations; i++) {
                if (isIn(reach[relation], i) && isIn(reach[i], relation)) {
                    mask |= 1 << i;
                }
            }
            return mask;
        }

        private void chooseRing(int mask) {
            if (ring == 0 || (mask & -mask) < (ring & -ring)) {
                ring = mask;
            }
        }

        private void raiseLayers() {
            for (int i = 0; i < ruleCount; i++) {
                Rule rule = rules[i];
                int head = rule.head.relation;
                for (int j = 0; j < rule.size; j++) {
                    Atom literal = rule.body[j];
                    if (literal.kind != CONDITION) {
                        int least = layers[literal.relation] + (mustLieBelow(rule, literal) ? 1 : 0);
                        layers[head] = Math.max(layers[head], least);
                    }
                }
            }
        }
    }

    /** Reads a text up to its first fault. */
    private static final class Reader {
        final Program program = new Program();
        int fault;
        int faultPlace = NONE;
        private final byte[] text;
        private final int length;
        private int at;
        private Rule rule = new Rule();

        Reader(byte[] text, int length) {
            this.text = text;
            this.length = Math.min(length, text.length);
        }

        void readRules() {
            // the rule after the last one that has room is begun, to be refused
            boolean read = true;
            for (int i = 0; i <= MOST_RULES && read && sign() != TEXT_END; i++) {
                read = readRule();
            }
            if (read && !program.findLayers()) {
                fail(NO_LAYERS);
            }
        }

        private boolean readRule() {
            rule = new Rule();
            if (isName(sign()) && program.ruleCount >= MOST_RULES) {
                return fail(TOO_MANY);
            }
            if (!readNamed(rule.head, true)) {
                return false;
            }
            if (sign() == '.') {
                return closeRule();
            }
            if (!takes(':') || !takes('-')) {
                return false;
            }
            // the literal after the last one that has room is begun, to be refused
            for (int i = 0; i <= MOST_LITERALS; i++) {
                if (!readLiteral()) {
                    return false;
                }
                if (sign() == '.') {
                    return closeRule();
                }
                if (!takes(',')) {
                    return false;
                }
            }
            return false;
        }

        private boolean closeRule() {
            if (rule.hasLooseVariable()) {
                return fail(LOOSE_VARIABLE);
            }
            if (program.refusesCount(rule)) {
                return fail(LONE_COUNT);
            }
            at++;
            rule.arrange();
            program.append(rule);
            return true;
        }

        private boolean readLiteral() {
            int first = sign();
            boolean condition = isVariable(first) || isDigit(first);
            if (!condition && !isName(first) && first != '~') {
                return fail(WRONG_SIGN);
            }
            boolean onePositiveTooMany = isName(first) && rule.positive >= MOST_POSITIVE;
            if (rule.size >= MOST_LITERALS || onePositiveTooMany) {
                return fail(TOO_MANY);
            }
            Atom literal = new Atom();
            boolean read;
            if (condition) {
                literal.kind = CONDITION;
                read = readTerm(literal, false) && readOperator(literal) && readTerm(literal, false);
            } else {
                literal.kind = first == '~' ? NEGATIVE : POSITIVE;
                read = (first != '~' || takes('~')) && readNamed(literal, false);
            }
            rule.append(literal);
            return read;
        }

        private boolean readOperator(Atom condition) {
            int operator = sign();
            if (operator != '<' && operator != '=' && operator != '!') {
                return fail(WRONG_SIGN);
            }
            condition.operator = operator;
            at++;
            return true;
        }

        private boolean readNamed(Atom atom, boolean head) {
            int name = sign();
            if (!isName(name)) {
                return fail(WRONG_SIGN);
            }
            boolean first = program.relationNamed(name) == NONE;
            atom.relation = program.relationMade(name);
            if (atom.relation < 0) {
                return fail(TOO_MANY);
            }
            at++;
            if (!takes('(')) {
                return false;
            }
            boolean more = true;
            for (int i = 0; i < MOST_TERMS && more; i++) {
                if (!readTerm(atom, head)) {
                    return false;
                }
                boolean last = i == MOST_TERMS - 1 || (head && rule.counted);
                more = !last && sign() == ',';
                at += more ? 1 : 0;
            }
            if (sign() != ')') {
                return fail(WRONG_SIGN);
            }
            if (first) {
                program.terms[atom.relation] = atom.size;
            }
            return program.terms[atom.relation] == atom.size ? takes(')') : fail(OTHER_TERMS);
        }

        private boolean readTerm(Atom atom, boolean head) {
            int sign = sign();
            if (isDigit(sign)) {
                atom.append(readNumber());
                return true;
            }
            if (isVariable(sign)) {
                if (!rule.takesVariable(sign - 'A')) {
                    return fail(TOO_MANY);
                }
                atom.append(-1 - (sign - 'A'));
            } else if (sign == '#' && head) {
                rule.counted = true;
                // a group is found by the row in which its number is still 0
                atom.append(0);
            } else {
                return fail(WRONG_SIGN);
            }
            at++;
            return true;
        }

        private int readNumber() {
            int number = 0;
            for (int i = 0; i < MOST_DIGITS && at < length && isDigit(text[at]); i++) {
                number = number * 10 + text[at] - '0';
                at++;
            }
            return number;
        }

        private boolean takes(int wanted) {
            if (sign() != wanted) {
                return fail(WRONG_SIGN);
            }
            at++;
            return true;
        }

        /** The sign behind the blanks; it stays where it is. */
        private int sign() {
            while (at < length && (text[at] == ' ' || text[at] == '\n')) {
                at++;
            }
            return at < length ? text[at] & 255 : TEXT_END;
        }

        private boolean fail(int kind) {
            fault = kind;
            faultPlace = at;
            return false;
        }

        private static boolean isName(int sign) {
            return sign >= 'a' && sign <= 'z';
        }

        private static boolean isVariable(int sign) {
            return sign >= 'A' && sign <= 'Z';
        }

        private static boolean isDigit(int sign) {
            return sign >= '0' && sign <= '9';
        }
    }

    /** The rows of one relation, rising, each with its count. */
    private static final class Rows {
        final int[] keys = new int[ROOM];
        final int[] counts = new int[ROOM];
        int size;

        /** How many rows lie below a key. */
        int seek(int key) {
            int below = 0;
            for (int step = 64; step > 0; step >>= 1) {
                int last = below + step - 1;
                if (last < size && last < ROOM && keys[last] < key) {
                    below += step;
                }
            }
            return below;
        }

        int countOf(int key) {
            int at = seek(key);
            return at < size && keys[at] == key ? counts[at] : 0;
        }

        /** The row's count after it; a row may stand with a count of 0 or less until zeros are dropped. */
        int add(int key, int more) {
            int at = seek(key);
            if (at < size && keys[at] == key) {
                counts[at] += more;
                return counts[at];
            }
            if (size >= ROOM) {
                return 0;
            }
            for (int i = size; i > at; i--) {
                keys[i] = keys[i - 1];
                counts[i] = counts[i - 1];
            }
            keys[at] = key;
            counts[at] = more;
            size++;
            return more;
        }

        /** False if a count is outside. */
        boolean dropZeros() {
            int kept = 0;
            for (int i = 0; i < size; i++) {
                if (counts[i] < 0 || counts[i] > MOST_COUNT) {
                    return false;
                }
                if (counts[i] > 0) {
                    keys[kept] = keys[i];
                    counts[kept] = counts[i];
                    kept++;
                }
            }
            size = kept;
            return true;
        }

        void copy(Rows other) {
            size = other.size;
            for (int i = 0; i < size; i++) {
                keys[i] = other.keys[i];
                counts[i] = other.counts[i];
            }
        }

        boolean isSame(Rows other) {
            if (size != other.size) {
                return false;
            }
            for (int i = 0; i < size; i++) {
                if (keys[i] != other.keys[i]) {
                    return false;
                }
            }
            return true;
        }
    }

    /** Rows of relations, each with a sign: the changes of a batch, or the differences that it made. */
    private static final class SignedRows {
        final int[] relations;
        final int[] keys;
        final int[] signs;
        int size;

        SignedRows(int room) {
            int length = Math.max(0, room);
            relations = new int[length];
            keys = new int[length];
            signs = new int[length];
        }

        void append(int relation, int key, int sign) {
            if (size >= keys.length) {
                return;
            }
            relations[size] = relation;
            keys[size] = key;
            signs[size] = sign;
            size++;
        }
    }

    /** Finds the values that fulfil a rule, for one of three goals. */
    private static final class Engine {
        private static final int ROWS = 0, NUMBER = 1, LEAST = 2;

        final int[] least = new int[MOST_VARIABLES];
        private final int[] values = new int[LETTERS];
        private final int[] queuedViews = new int[MOST_VIEW_ROWS];
        private final int[] queuedKeys = new int[MOST_VIEW_ROWS];
        private int queued;
        private int known;
        private int goal;
        private int number;
        private boolean full;
        private Program program = new Program();
        private Rule rule = new Rule();
        private Rows[] rows = new Rows[0];

        /** Makes the views from nothing over the tables that stand in the rows; false if they do not fit. */
        boolean workViews(Program rules, Rows[] all) {
            begin(rules, all, ROWS);
            for (int i = 0; i < program.relations; i++) {
                if (program.isView(i)) {
                    rows[i].size = 0;
                }
            }
            for (int layer = 1; layer <= program.topLayer && !full; layer++) {
                queued = 0;
                seed(layer);
                spread(layer);
            }
            return !full;
        }

        int countDerivations(Program rules, Rows[] all, int view, int key) {
            begin(rules, all, NUMBER);
            for (int i = 0; i < program.ruleCount; i++) {
                solveFor(i, view, key);
            }
            return number;
        }

        /** The rule of the least derivation, whose values stand in least; or NONE. */
        int findLeast(Program rules, Rows[] all, int view, int key) {
            begin(rules, all, LEAST);
            for (int i = 0; i < program.ruleCount; i++) {
                solveFor(i, view, key);
                if (number > 0) {
                    return i;
                }
            }
            return NONE;
        }

        private void begin(Program rules, Rows[] all, int wanted) {
            program = rules;
            rows = all;
            goal = wanted;
            number = 0;
            full = false;
        }

        private void solveFor(int index, int view, int key) {
            rule = program.rules[index];
            known = 0;
            if (rule.head.relation == view && matches(rule.head, key)) {
                solve(0);
            }
        }

        /** The rules that need only what lies in lower layers. */
        private void seed(int layer) {
            for (int i = 0; i < program.ruleCount && !full; i++) {
                rule = program.rules[i];
                if (program.layers[rule.head.relation] == layer && !usesLayer(layer)) {
                    known = 0;
                    solve(0);
                    if (rule.counted) {
                        closeCounts();
                    }
                }
            }
        }

        private boolean usesLayer(int layer) {
            for (int i = 0; i < rule.size; i++) {
                if (rule.body[i].kind == POSITIVE && program.layers[rule.body[i].relation] == layer) {
                    return true;
                }
            }
            return false;
        }

        /** Each row that came into this layer is set once into each literal that it may stand for. */
        private void spread(int layer) {
            for (int i = 0; i < queued && i < MOST_VIEW_ROWS; i++) {
                for (int j = 0; j < program.ruleCount; j++) {
                    rule = program.rules[j];
                    for (int k = 0; k < rule.size && program.layers[rule.head.relation] == layer && !full; k++) {
                        Atom literal = rule.body[k];
                        known = 0;
                        if (literal.kind == POSITIVE && literal.relation == queuedViews[i] && matches(literal, queuedKeys[i])) {
                            solve(0);
                        }
                    }
                }
            }
        }

        private void solve(int step) {
            if (full || isNothingNew()) {
                return;
            }
            if (step >= rule.size || step >= MOST_LITERALS) {
                found();
                return;
            }
            Atom literal = rule.body[step];
            if (literal.kind != POSITIVE) {
                if (holds(literal)) {
                    solve(step + 1);
                }
                return;
            }
            Rows candidates = rows[literal.relation];
            int knownBefore = known;
            int low = 0;
            int span = 1000000000;
            for (int i = 0; i < literal.size && isKnown(literal.terms[i]); i++) {
                span = weight(i);
                low += valueOf(literal.terms[i]) * span;
            }
            // rows that come meanwhile move others up: one may be met twice, none is missed
            for (int at = candidates.seek(low); at < candidates.size && at < ROOM && candidates.keys[at] - low < span; at++) {
                if (matches(literal, candidates.keys[at])) {
                    solve(step + 1);
                }
                known = knownBefore;
            }
        }

        /** Where rows alone are wanted, one that is there already needs no second derivation. */
        private boolean isNothingNew() {
            Atom head = rule.head;
            if (goal != ROWS || rule.counted || (head.letters & ~known) != 0) {
                return false;
            }
            return rows[head.relation].countOf(keyOf(head)) > 0;
        }

        private void found() {
            if (goal == ROWS) {
                Rows view = rows[rule.head.relation];
                int key = keyOf(rule.head);
                int count = view.add(key, 1);
                full = view.size > MOST_ROWS || count > MOST_VALUE;
                if (!rule.counted) {
                    enqueue(rule.head.relation, key);
                }
                return;
            }
            number++;
            if (goal == LEAST && (number == 1 || isLess())) {
                keepValues();
            }
        }

        private void enqueue(int view, int key) {
            if (queued < MOST_VIEW_ROWS) {
                queuedViews[queued] = view;
                queuedKeys[queued] = key;
                queued++;
            }
        }

        /** Puts each group's number in the place of the last term. */
        private void closeCounts() {
            Rows view = rows[rule.head.relation];
            for (int i = 0; i < view.size && !full; i++) {
                view.keys[i] += view.counts[i] * weight(rule.head.size - 1);
                view.counts[i] = 1;
                enqueue(rule.head.relation, view.keys[i]);
            }
        }

        private boolean isLess() {
            int at = 0;
            for (int letter = 0; letter < LETTERS && at < MOST_VARIABLES; letter++) {
                if (isIn(rule.letters, letter)) {
                    if (values[letter] != least[at]) {
                        return values[letter] < least[at];
                    }
                    at++;
                }
            }
            return false;
        }

        private void keepValues() {
            int at = 0;
            for (int letter = 0; letter < LETTERS && at < MOST_VARIABLES; letter++) {
                if (isIn(rule.letters, letter)) {
                    least[at] = values[letter];
                    at++;
                }
            }
        }

        /** Sets unknown variables by a row; where it answers false, some may be set all the same. */
        private boolean matches(Atom atom, int key) {
            for (int i = 0; i < atom.size; i++) {
                int term = atom.terms[i];
                int value = valueAt(key, i);
                if (!isKnown(term)) {
                    values[-1 - term] = value;
                    known |= 1 << (-1 - term);
                } else if (valueOf(term) != value) {
                    return false;
                }
            }
            return true;
        }

        private boolean holds(Atom literal) {
            if (literal.kind == NEGATIVE) {
                return rows[literal.relation].countOf(keyOf(literal)) == 0;
            }
            int left = valueOf(literal.terms[0]);
            int right = valueOf(literal.terms[1]);
            if (literal.operator == '<') {
                return left < right;
            }
            return (left == right) == (literal.operator == '=');
        }

        private int keyOf(Atom atom) {
            int key = 0;
            for (int i = 0; i < atom.size; i++) {
                key += valueOf(atom.terms[i]) * weight(i);
            }
            return key;
        }

        private boolean isKnown(int term) {
            return term >= 0 || isIn(known, -1 - term);
        }

        private int valueOf(int term) {
            return term >= 0 ? term : values[-1 - term];
        }
    }
}
