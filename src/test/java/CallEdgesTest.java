import java.util.function.Supplier;

/**
 * Every sentence of the document that names a boundary of a call: the last input that is taken, the first one
 * that is not, and that a refused call leaves the object as one that never had it.
 */
public final class CallEdgesTest {
    private static final int NONE = -1, BAD = -2, FULL = -3, STATE = -4;
    private static final int LOW = Integer.MIN_VALUE, HIGH = Integer.MAX_VALUE;
    private static final int P = Lives.P, E = Lives.E, U = Lives.U, V = Lives.V, N = Lives.N, W = Lives.W, T = Lives.T;
    private static final int[] TERMS = {2, 2, 1, 1, 2, 3, 3};
    private static final int[] VALUES = {LOW, -1000, -1, 0, 1, 998, 999, 1000, 1001, 1000000, HIGH};
    private static final Check CHECK = new Check();

    private interface Call {
        int on(ViewRounds x);
    }

    private static void says(String words) {
        CHECK.says(words);
    }

    private static void same(String call, long got, long due) {
        CHECK.same(call, got, due);
    }

    /** The object with the call and its twin with another one in its place are and stay alike. */
    private static void insteadOf(String name, Supplier<ViewRounds> life, Call call, int due, Call instead) {
        for (int turn = 0; turn < 2; turn++) {
            ViewRounds x = life.get();
            ViewRounds twin = life.get();
            same(name, call.on(x), due);
            instead.on(twin);
            CHECK.alike("after " + name, Look.at(x), Look.at(twin));
            CHECK.alike("onwards after " + name, Look.onwards(x, turn == 0), Look.onwards(twin, turn == 0));
        }
    }

    private static void refused(String name, Supplier<ViewRounds> life, Call call, int due) {
        insteadOf(name, life, call, due, x -> 0);
    }

    private static void refused(String name, Call call, int due) {
        refused(name, Lives::lived, call, due);
    }

    private static void changes(ViewRounds x, int table, int from, int to, int sign) {
        for (int i = from; i < to; i++) {
            CHECK.holds("a change is taken", x.change(table, i, 0, 0, sign) > 0);
        }
    }

    private static void times(ViewRounds x, int table, int a, int sign, int times) {
        for (int i = 0; i < times; i++) {
            CHECK.holds("a change is taken", x.change(table, a, 0, 0, sign) > 0);
        }
    }

    private static boolean isOutside(int value) {
        return value < 0 || value > 999;
    }

    // ---- no rules

    private static void stateOf(String name, Call call, int due) {
        refused(name + " of a new object", Lives::fresh, call, due);
        refused(name + " after a ring", Lives::refused, call, due);
        refused(name + " after a text that is full", CallEdgesTest::afterFull, call, due);
        refused(name + " after blanks", CallEdgesTest::afterBlanks, call, due);
    }

    private static ViewRounds afterFull() {
        ViewRounds x = Lives.read(Lives.RULES);
        x.change(V, 1, 0, 0, 1);
        x.batch();
        same("a full text", Check.parse(x, "v(1).v(2).v(3).v(4).v(5).v(6).v(7).p(X,Y):-v(X),v(Y)."), FULL);
        Check.feed(x, "q(X):-");
        return x;
    }

    private static ViewRounds afterBlanks() {
        ViewRounds x = Lives.read(Lives.RULES);
        x.change(V, 1, 0, 0, 1);
        same("blanks", Check.parse(x, " \n"), 0);
        Check.feed(x, "q(X):-");
        return x;
    }

    private static void withoutRules() {
        says("STATE there are no rules; of several STATE first");
        stateOf("relation('p')", x -> x.relation('p'), STATE);
        stateOf("relation(0)", x -> x.relation(0), STATE);
        stateOf("of(0, 0)", x -> x.of(0, 0), STATE);
        stateOf("of(-1, 9)", x -> x.of(-1, 9), STATE);
        stateOf("change(1, ..)", x -> x.change(1, 1, 1, 1, 1), STATE);
        stateOf("change(9, ..)", x -> x.change(9, -1, 1000, 1, 0), STATE);
        stateOf("batch()", ViewRounds::batch, STATE);
        stateOf("drop()", ViewRounds::drop, STATE);
        stateOf("difference(0, 0)", x -> x.difference(0, 0), STATE);
        stateOf("difference(-1, 5)", x -> x.difference(-1, 5), STATE);
        stateOf("undo()", ViewRounds::undo, STATE);
        stateOf("has(0, ..)", x -> x.has(0, 1, 1, 1), STATE);
        stateOf("has(-1, ..)", x -> x.has(-1, 1000, 1, 1), STATE);
        stateOf("row(0, 0, 0)", x -> x.row(0, 0, 0), STATE);
        stateOf("row(-1, -1, 4)", x -> x.row(-1, -1, 4), STATE);
        stateOf("derivations(0, ..)", x -> x.derivations(0, 1, 1, 1), STATE);
        stateOf("derivations(-1, ..)", x -> x.derivations(-1, 1000, 1, 1), STATE);
        stateOf("why(0, .., 0)", x -> x.why(0, 1, 1, 1, 0), STATE);
        stateOf("why(-1, .., 8)", x -> x.why(-1, 1000, 1, 1, 8), STATE);
        says("STATE: false");
        stateOf("anew()", x -> x.anew() ? 1 : 0, 0);
        says("All 0 without rules; BAD");
        for (int what = 0; what <= 5; what++) {
            int number = what;
            stateOf("told(" + what + ")", x -> x.told(number), 0);
        }
        stateOf("told(-1)", x -> x.told(-1), BAD);
        stateOf("told(6)", x -> x.told(6), BAD);
        says("a new object has no place and no ring");
        same("place()", Lives.fresh().place(), NONE);
        same("ring(0)", Lives.fresh().ring(0), NONE);
    }

    // ---- relations

    private static void names() {
        says("The relation of a name (a .. z); NONE");
        int[] none = {'a' - 1, 'z' + 1, 'A', 'P', 'Z', 0, -1, 'p' + 256, 'p' - 256, 'q', LOW, HIGH};
        for (int name : none) {
            refused("relation(" + name + ")", x -> x.relation(name), NONE);
        }
        ViewRounds ends = Lives.read("a(X):-z(X).");
        same("relation('a')", ends.relation('a'), 0);
        same("relation('z')", ends.relation('z'), 1);
        ViewRounds eight = Lives.read("a(X):-b(X),c(X),d(X).e(X):-f(X),g(X),h(X).");
        same("the eighth", eight.relation('h'), 7);
        same("none behind it", eight.relation('i'), NONE);
    }

    private static void relations() {
        says("Of a relation: STATE; BAD");
        int[] outside = {-1, Lives.RELATIONS, 8, 31, 32, 33, LOW, HIGH};
        for (int relation : outside) {
            refused("of(" + relation + ", 0)", x -> x.of(relation, 0), BAD);
            refused("change(" + relation + ", ..)", x -> x.change(relation, 1, 1, 1, 1), BAD);
            refused("has(" + relation + ", ..)", x -> x.has(relation, 1, 1, 1), BAD);
            refused("row(" + relation + ", 0, 0)", x -> x.row(relation, 0, 0), BAD);
            refused("derivations(" + relation + ", ..)", x -> x.derivations(relation, 1, 1, 1), BAD);
            refused("why(" + relation + ", .., 0)", x -> x.why(relation, 1, 1, 1, 0), BAD);
        }
        int[] whats = {-1, 5, LOW, HIGH, 6};
        for (int what : whats) {
            refused("of(0, " + what + ")", x -> x.of(0, what), BAD);
            refused("of(6, " + what + ")", x -> x.of(6, what), BAD);
        }
        ViewRounds x = Lives.lived();
        int[][] due = {{1, 2, 1, 9, 1}, {0, 2, 0, 3, 0}, {1, 1, 2, 2, 0}, {0, 1, 0, 3, 0}, {1, 2, 2, 3, 0}, {1, 3, 1, 1, 0}, {0, 3, 0, 1, 0}};
        for (int relation = 0; relation < due.length; relation++) {
            for (int what = 0; what <= 4; what++) {
                same("of(" + relation + ", " + what + ")", x.of(relation, what), due[relation][what]);
            }
        }
        oneAndEightRelations();
    }

    private static void oneAndEightRelations() {
        ViewRounds one = Lives.read("a(5).");
        same("of(0, 3)", one.of(0, 3), 1);
        same("of(1, 3)", one.of(1, 3), BAD);
        same("has(0, 5, ..)", one.has(0, 5, 0, 0), 1);
        same("has(1, 5, ..)", one.has(1, 5, 0, 0), BAD);
        same("row(0, 0, 0)", one.row(0, 0, 0), 5);
        same("row(1, 0, 0)", one.row(1, 0, 0), BAD);
        same("why(0, 5, ..)", one.why(0, 5, 0, 0, 0), 0);
        same("why(1, 5, ..)", one.why(1, 5, 0, 0, 0), BAD);
        same("derivations(0, 5, ..)", one.derivations(0, 5, 0, 0), 1);
        same("derivations(1, 5, ..)", one.derivations(1, 5, 0, 0), BAD);
        ViewRounds eight = Lives.read("a(X):-b(X),c(X),d(X).e(X):-f(X),g(X),h(X).");
        same("of(7, 1)", eight.of(7, 1), 1);
        same("of(8, 1)", eight.of(8, 1), BAD);
        same("change(7, ..)", eight.change(7, 3, 0, 0, 1), 1);
        same("change(8, ..)", eight.change(8, 3, 0, 0, 1), BAD);
        same("batch()", eight.batch(), 0);
        same("has(7, 3, ..)", eight.has(7, 3, 0, 0), 1);
        same("has(8, 3, ..)", eight.has(8, 3, 0, 0), BAD);
        same("row(7, 0, 0)", eight.row(7, 0, 0), 3);
        same("row(8, 0, 0)", eight.row(8, 0, 0), BAD);
        ViewRounds last = Lives.read("a(X):-b(X),c(X),d(X).e(X):-f(X),g(X). h(1).");
        same("derivations(7, 1, ..)", last.derivations(7, 1, 0, 0), 1);
        same("derivations(8, 1, ..)", last.derivations(8, 1, 0, 0), BAD);
        same("why(7, 1, ..)", last.why(7, 1, 0, 0, 0), 2);
        same("why(8, 1, ..)", last.why(8, 1, 0, 0, 0), BAD);
    }

    private static void ringsThroughRules() {
        says("4 whether it lies on a ring (through rules)");
        ViewRounds x = Lives.read("a(X):-a(X). b(X):-a(X),c(X). c(X):-d(X). d(X):-c(X),t(X). u(X):-t(X),~b(X).");
        int[] due = {1, 0, 1, 1, 0, 0};
        for (int i = 0; i < due.length; i++) {
            same("of(" + i + ", 4)", x.of(i, 4), due[i]);
        }
        ViewRounds tests = Lives.read("a(X):-b(X). b(X):-t(X),X<5. c(#):-b(X),1<2.");
        for (int i = 0; i < 4; i++) {
            same("a condition leads nowhere " + i, tests.of(i, 4), 0);
        }
        ViewRounds eight = Lives.read("a(X):-b(X).b(X):-c(X).c(X):-d(X).d(X):-e(X).e(X):-f(X).f(X):-g(X).g(X):-h(X).h(X):-a(X).");
        ViewRounds open = Lives.read("a(X):-b(X).b(X):-c(X).c(X):-d(X).d(X):-e(X).e(X):-f(X).f(X):-g(X).g(X):-h(X).");
        for (int i = 0; i < 8; i++) {
            same("on the ring of eight " + i, eight.of(i, 4), 1);
            same("on the way of eight " + i, open.of(i, 4), 0);
        }
    }

    // ---- values

    private static Call withValue(String method, int relation, int place, int value) {
        int a = place == 0 ? value : 1;
        int b = place == 1 ? value : 1;
        int c = place == 2 ? value : 1;
        return switch (method) {
            case "change" -> x -> x.change(relation, a, b, c, 1);
            case "has" -> x -> x.has(relation, a, b, c);
            case "derivations" -> x -> x.derivations(relation, a, b, c);
            default -> x -> x.why(relation, a, b, c, 0);
        };
    }

    private static void valuesOf(String method, int... relations) {
        for (int relation : relations) {
            for (int place = 0; place < 3; place++) {
                for (int value : VALUES) {
                    String name = method + " of " + relation + " with " + value + " at " + place;
                    Call call = withValue(method, relation, place, value);
                    if (place < TERMS[relation] && isOutside(value)) {
                        refused(name, call, BAD);
                    } else {
                        CHECK.holds(name + " is not BAD", call.on(Lives.lived()) != BAD);
                    }
                }
            }
        }
    }

    private static void values() {
        says("BAD (no TABLE, sign, a value not 0 .. 999); values beyond its TERMS are not looked at");
        valuesOf("change", E, V, T);
        says("Values beyond its TERMS are not looked at, here and below. BAD (relation, value)");
        valuesOf("has", P, E, U, V, N, W, T);
        valuesOf("derivations", P, U, N, W);
        valuesOf("why", P, U, W);
        says("ROWS are values 0 .. 999, one for each TERM");
        ViewRounds x = Lives.read("a(Z,Y,X):-t(X,Y,Z). b(Y,X):-s(X,Y). c(X):-r(X).");
        same("change", x.change(1, 0, 999, 0, 1), 1);
        same("change", x.change(1, 999, 0, 999, 1), 2);
        same("change", x.change(3, 999, 0, -7, 1), 3);
        same("change", x.change(5, 999, 1000, LOW, 1), 4);
        same("change", x.change(5, 999, -1, HIGH, 1), 5);
        same("batch", x.batch(), 4);
        same("a(0, 999, 0)", x.has(0, 0, 999, 0), 1);
        same("a(999, 0, 999)", x.has(0, 999, 0, 999), 1);
        same("b(0, 999)", x.has(2, 0, 999, 1000), 1);
        same("c(999)", x.has(4, 999, -1, 1000), 1);
        same("one row of two changes", x.has(5, 999, 5, 5), 2);
        same("derivations", x.derivations(4, 999, -1, 1000), 1);
        same("why", x.why(4, 999, -1, 1000, 2), 999);
        same("rows", x.of(5, 3), 1);
    }

    // ---- changes

    private static void tablesAndSigns() {
        says("A change of a TABLE comes to the BATCH: sign 1 or -1; BAD (no TABLE, sign)");
        int[] views = {P, U, N, W};
        for (int view : views) {
            refused("change(" + view + ", ..)", x -> x.change(view, 1, 1, 1, 1), BAD);
            refused("change(" + view + ", .., -1)", x -> x.change(view, 1, 1, 1, -1), BAD);
        }
        int[] signs = {0, 2, -2, 3, LOW, HIGH, LOW + 1};
        for (int sign : signs) {
            refused("change(1, .., " + sign + ")", x -> x.change(E, 1, 1, 1, sign), BAD);
        }
        ViewRounds x = Lives.lived();
        same("a sign of 1", x.change(E, 1, 2, 0, 1), 3);
        same("a sign of -1", x.change(V, 9, 0, 0, -1), 4);
        same("batch", x.batch() >= 0 ? 1 : 0, 1);
        same("one more", x.has(E, 1, 2, 0), 2);
        same("one less", x.has(V, 9, 0, 0), 0);
    }

    /** The batch under way has so many changes, of rows that all fit. */
    private static ViewRounds withChanges(int count) {
        ViewRounds x = Lives.read(Lives.RULES);
        times(x, V, 3, 1, 2);
        x.batch();
        changes(x, V, 0, Math.min(count, 35), 1);
        for (int i = 35; i < count; i++) {
            CHECK.holds("a change is taken", x.change(T, i, i, i, 1) > 0);
        }
        Check.feed(x, "q(X):-");
        return x;
    }

    private static void changesOfABatch() {
        says("how many are in it; FULL: there are 60");
        same("the first", withChanges(0).change(V, 1, 0, 0, 1), 1);
        same("the last but one", withChanges(58).change(V, 1, 0, 0, 1), 59);
        same("the last", withChanges(59).change(V, 1, 0, 0, 1), 60);
        refused("the 61st", () -> withChanges(60), x -> x.change(V, 1, 0, 0, 1), FULL);
        refused("the 61st, one less", () -> withChanges(60), x -> x.change(V, 1, 0, 0, -1), FULL);
        refused("the 61st, of another table", () -> withChanges(60), x -> x.change(E, 1, 1, 0, 1), FULL);
        says("of several STATE first, then BAD, NONE, FULL");
        refused("the 61st with a value outside", () -> withChanges(60), x -> x.change(V, 1000, 0, 0, 1), BAD);
        refused("the 61st with a sign outside", () -> withChanges(60), x -> x.change(V, 1, 0, 0, 0), BAD);
        refused("the 61st of a view", () -> withChanges(60), x -> x.change(U, 1, 0, 0, 1), BAD);
        refused("the 61st of nothing", () -> withChanges(60), x -> x.change(9, 1, 0, 0, 1), BAD);
        says("the BATCH has room again when it is empty, and only then");
        ViewRounds dropped = withChanges(60);
        same("drop()", dropped.drop(), 60);
        same("after drop()", dropped.change(V, 1, 0, 0, 1), 1);
        ViewRounds done = withChanges(60);
        CHECK.holds("batch()", done.batch() > 0);
        same("rows of v", done.of(V, 3), 35);
        same("rows of t", done.of(T, 3), 25);
        same("after batch()", done.change(V, 1, 0, 0, 1), 1);
        ViewRounds back = withChanges(60);
        same("undo()", back.undo() >= 0 ? 1 : 0, 1);
        same("after undo()", back.change(V, 1, 0, 0, 1), FULL);
        same("drop() after undo()", back.drop(), 60);
        ViewRounds read = withChanges(60);
        same("parse()", Check.parse(read, Lives.OTHER_HALF), 1);
        same("after parse()", read.change(1, 1, 0, 0, 1), 1);
    }

    // ---- batches

    private static void countsOfRows() {
        says("BAD: a COUNT would be below 0, or above 9");
        ViewRounds x = Lives.read("a(X):-b(X).");
        times(x, 1, 5, 1, 9);
        same("9 at once", x.batch(), 1);
        same("its count", x.has(1, 5, 0, 0), 9);
        same("its count", x.row(1, 0, 3), 9);
        same("of the view", x.row(0, 0, 3), 1);
        same("of the view", x.has(0, 5, 0, 0), 1);
        times(x, 1, 5, -1, 8);
        same("8 less", x.batch(), 0);
        same("its count", x.has(1, 5, 0, 0), 1);
        times(x, 1, 5, -1, 1);
        same("the last one", x.batch(), 1);
        same("not there", x.has(1, 5, 0, 0), 0);
        same("no rows", x.of(1, 3), 0);
        for (int count = 0; count <= 9; count++) {
            countFrom(count);
        }
        says("COUNTS change by the sums, in any order");
        ViewRounds sums = Lives.read("a(X):-b(X).");
        times(sums, 1, 5, -1, 30);
        times(sums, 1, 5, 1, 30);
        same("30 less and 30 more", sums.batch(), 0);
        same("not there", sums.of(1, 3), 0);
        times(sums, 1, 5, 1, 34);
        times(sums, 1, 5, -1, 25);
        same("34 more and 25 less", sums.batch(), 1);
        same("its count", sums.has(1, 5, 0, 0), 9);
        times(sums, 1, 5, 1, 25);
        times(sums, 1, 5, -1, 34);
        same("25 more and 34 less", sums.batch(), 1);
        same("not there", sums.of(1, 3), 0);
    }

    private static void countFrom(int count) {
        Supplier<ViewRounds> above = () -> withCount(count, 10 - count, 1);
        insteadOf("from " + count + " to 10", above, ViewRounds::batch, BAD, ViewRounds::drop);
        Supplier<ViewRounds> below = () -> withCount(count, count + 1, -1);
        insteadOf("from " + count + " to -1", below, ViewRounds::batch, BAD, ViewRounds::drop);
        ViewRounds most = withCount(count, 9 - count, 1);
        CHECK.holds("from " + count + " to 9", most.batch() >= 0);
        same("9", most.has(1, 5, 0, 0), 9);
        ViewRounds least = withCount(count, count, -1);
        CHECK.holds("from " + count + " to 0", least.batch() >= 0);
        same("0", least.has(1, 5, 0, 0), 0);
    }

    /** A row has its count, another one came before; the batch under way would change it, and a third one. */
    private static ViewRounds withCount(int count, int more, int sign) {
        ViewRounds x = Lives.read("a(X):-b(X).");
        times(x, 1, 7, 1, 3);
        times(x, 1, 5, 1, count);
        x.batch();
        times(x, 1, 2, 1, 1);
        times(x, 1, 5, sign, more);
        times(x, 1, 9, 1, 1);
        Check.feed(x, "q(X):-");
        return x;
    }

    /** A table of 40 rows; the batch under way takes some of them and brings others. */
    private static ViewRounds withForty(int fewer, int more) {
        ViewRounds x = Lives.read("a(X):-b(X),c(X). d(X):-c(X).");
        changes(x, 1, 0, 40, 1);
        same("forty rows", x.batch(), 0);
        changes(x, 2, 10, 12, 1);
        changes(x, 1, 0, fewer, -1);
        changes(x, 1, 100, 100 + more, 1);
        Check.feed(x, "q(X):-");
        return x;
    }

    private static void rowsOfATable() {
        says("No relation has more than 40 ROWS, or it is FULL: a TABLE");
        insteadOf("a 41st row", () -> withForty(0, 1), ViewRounds::batch, FULL, ViewRounds::drop);
        insteadOf("many rows more", () -> withForty(0, 58), ViewRounds::batch, FULL, ViewRounds::drop);
        insteadOf("28 go, 29 come", () -> withForty(28, 29), ViewRounds::batch, FULL, ViewRounds::drop);
        ViewRounds same = withForty(1, 1);
        same("one goes, one comes", same.batch(), 4);
        same("rows", same.of(1, 3), 40);
        same("the last one", same.row(1, 39, 0), 100);
        same("none behind it", same.row(1, 40, 0), NONE);
        ViewRounds many = withForty(29, 29);
        same("29 go, 29 come", many.batch(), 2);
        same("rows", many.of(1, 3), 40);
        ViewRounds more = Lives.read("a(X):-b(X),X<0.");
        changes(more, 1, 0, 40, 1);
        same("40 at once", more.batch(), 0);
        ViewRounds over = Lives.read("a(X):-b(X),X<0.");
        changes(over, 1, 0, 41, 1);
        same("41 at once", over.batch(), FULL);
        same("no rows", over.of(1, 3), 0);
        ViewRounds counts = Lives.read("a(X):-b(X),X<0.");
        changes(counts, 1, 0, 40, 1);
        changes(counts, 1, 0, 20, 1);
        same("a count takes no row more", counts.batch(), 0);
        same("its count", counts.has(1, 19, 0, 0), 2);
        ViewRounds back = Lives.read("a(X):-b(X),X<0.");
        changes(back, 1, 0, 50, 1);
        changes(back, 1, 40, 50, -1);
        same("the sums count", back.batch(), 0);
        same("rows", back.of(1, 3), 40);
    }

    /** Pairs of 6 by 7, of which the second values reach down so far that some are the same. */
    private static ViewRounds withPairs(String head, int from) {
        ViewRounds x = Lives.read("p(" + head + "):-v(X),w(Y),X!Y. r(#):-v(X). s(X):-v(X),~w(X).");
        changes(x, 1, 0, 2, 1);
        x.batch();
        changes(x, 1, 2, 6, 1);
        changes(x, 2, from, from + 7, 1);
        Check.feed(x, "q(X):-");
        return x;
    }

    private static void rowsOfAView() {
        says("No relation has more than 40 ROWS, or it is FULL: a VIEW");
        String[] heads = {"X,Y", "Y,X", "7,X,Y", "X,Y,#"};
        for (String head : heads) {
            ViewRounds pairs = withPairs(head, 4);
            CHECK.holds("40 rows of " + head, pairs.batch() > 40);
            same("rows", pairs.of(0, 3), 40);
            insteadOf("41 rows of " + head, () -> withPairs(head, 5), ViewRounds::batch, FULL, ViewRounds::drop);
            insteadOf("42 rows of " + head, () -> withPairs(head, 6), ViewRounds::batch, FULL, ViewRounds::drop);
        }
        says("No relation has more than 40 ROWS, or it is FULL: a VIEW with recursion");
        ViewRounds most = withWay(4);
        CHECK.holds("40 ways", most.batch() > 40);
        same("rows", most.of(0, 3), 40);
        insteadOf("41 ways", () -> withWay(5), ViewRounds::batch, FULL, ViewRounds::drop);
    }

    /** A way over nine points makes 36 pairs; each edge apart makes one more. */
    private static ViewRounds withWay(int apart) {
        ViewRounds x = Lives.read("p(X,Y):-e(X,Y). p(X,Y):-p(X,Z),p(Z,Y). u(X):-p(X,Y).");
        for (int i = 0; i < 8; i++) {
            x.change(1, i, i + 1, 0, 1);
        }
        for (int i = 0; i < apart; i++) {
            x.change(1, 100 + i, 200 + i, 0, 1);
        }
        Check.feed(x, "q(X):-");
        return x;
    }

    /** Two tables whose product is counted; the batch under way brings the last of the second one. */
    private static ViewRounds withProduct(int left, int right) {
        ViewRounds x = Lives.read("n(#):-v(X),w(Y). m(X,#):-v(X),w(Y).");
        changes(x, 1, 0, left, 1);
        x.batch();
        changes(x, 2, 0, right, 1);
        Check.feed(x, "q(X):-");
        return x;
    }

    private static void numbers() {
        says("no # is above 999, or it is FULL");
        ViewRounds most = withProduct(27, 37);
        same("27 by 37", most.batch(), 28);
        same("number", most.row(0, 0, 0), 999);
        same("derivations", most.derivations(0, 999, 0, 0), 999);
        insteadOf("25 by 40", () -> withProduct(25, 40), ViewRounds::batch, FULL, ViewRounds::drop);
        insteadOf("40 by 40", () -> withProduct(40, 40), ViewRounds::batch, FULL, ViewRounds::drop);
        ViewRounds apart = Lives.read("m(X,#):-v(X),w(Y).");
        changes(apart, 1, 0, 40, 1);
        apart.batch();
        changes(apart, 2, 0, 40, 1);
        same("40 groups of 40", apart.batch(), 40);
        same("each of its own number", apart.row(0, 39, 1), 40);
        says("how many values of all variables fulfil the LITERALS, if that is 1 at least");
        ViewRounds least = Lives.read("n(#):-v(X),~w(X). m(#):-1<0. k(#):-0<1.");
        same("no row of 0", least.of(0, 3), 0);
        same("no row of 0", least.of(3, 3), 0);
        same("one row of 1", least.row(4, 0, 0), 1);
        changes(least, 1, 5, 6, 1);
        same("one comes", least.batch(), 1);
        same("one row of 1", least.row(0, 0, 0), 1);
        changes(least, 2, 5, 6, 1);
        same("it goes", least.batch(), 1);
        same("no row of 0", least.of(0, 3), 0);
        same("derivations of 0", least.derivations(0, 0, 0, 0), 0);
        same("derivations of 1", least.derivations(0, 1, 0, 0), 0);
    }

    /** Changes that are wrong in one table, and too many for another one or for a view. */
    private static ViewRounds withBoth(int wrongTable, boolean above, boolean view) {
        ViewRounds x = Lives.read("p(X,Y):-v(X),v(Y). q(X):-t(X). r(X):-s(X).");
        changes(x, 3, 0, 40, 1);
        x.batch();
        if (view) {
            changes(x, 1, 0, 7, 1);
        } else {
            changes(x, 3, 90, 91, 1);
        }
        times(x, wrongTable, 50, above ? 1 : -1, above ? 10 : 1);
        Check.feed(x, "q(X):-");
        return x;
    }

    private static void badBeforeFull() {
        says("of several STATE first, then BAD, NONE, FULL: batch()");
        for (int i = 0; i < 12; i++) {
            int wrongTable = 1 + 2 * (i % 3);
            boolean above = i / 3 % 2 == 1;
            boolean view = i / 6 == 1;
            insteadOf("BAD and FULL, " + i, () -> withBoth(wrongTable, above, view), ViewRounds::batch, BAD, ViewRounds::drop);
        }
        Supplier<ViewRounds> sameTable = () -> {
            ViewRounds x = withForty(0, 5);
            times(x, 1, 50, -1, 1);
            return x;
        };
        insteadOf("BAD and FULL of one table", sameTable, ViewRounds::batch, BAD, ViewRounds::drop);
        Supplier<ViewRounds> laterTable = () -> {
            ViewRounds x = withForty(0, 5);
            times(x, 2, 50, -1, 1);
            return x;
        };
        insteadOf("BAD of the table behind", laterTable, ViewRounds::batch, BAD, ViewRounds::drop);
        says("The BATCH, with changes or without, is done (it is empty then)");
        ViewRounds x = Lives.lived();
        same("with changes", x.batch(), 12);
        same("it is empty", x.told(2), 0);
        same("nothing to drop", x.drop(), 0);
        same("it can be taken back", x.told(4), 3);
        same("without", x.batch(), 0);
        same("no differences", x.told(3), 0);
        same("it can be taken back", x.told(4), 4);
        same("taken back", x.undo(), 0);
        same("taken back", x.undo(), 12);
    }

    private static void dropped() {
        says("The BATCH is empty: how many changes it had");
        same("of none", withChanges(0).drop(), 0);
        same("of one", withChanges(1).drop(), 1);
        same("of 60", withChanges(60).drop(), 60);
        ViewRounds x = Lives.lived();
        same("drop()", x.drop(), 2);
        same("drop() again", x.drop(), 0);
        same("nothing has changed", x.batch(), 0);
        refused("drop() of an empty one", () -> withChanges(0), ViewRounds::drop, 0);
    }

    // ---- differences

    /** Seven views of one table, each of which changes all of its 40 rows. */
    private static ViewRounds withMostDifferences() {
        StringBuilder rules = new StringBuilder();
        for (char name = 'a'; name <= 'g'; name++) {
            rules.append(name).append("(X,Y):-t(X),t(Y),X<100,99<Y.");
        }
        ViewRounds x = Lives.read(rules.toString());
        changes(x, 1, 0, 5, 1);
        changes(x, 1, 100, 108, 1);
        same("all come", x.batch(), 280);
        changes(x, 1, 100, 108, -1);
        changes(x, 1, 200, 208, 1);
        return x;
    }

    private static void differences() {
        says("Of DIFFERENCE k: BAD (what); NONE");
        int[] outside = {-1, LOW, HIGH};
        for (int k : outside) {
            refused("difference(" + k + ", 0)", x -> x.difference(k, 0), NONE);
            refused("difference(" + k + ", 4)", x -> x.difference(k, 4), NONE);
            refused("difference(" + k + ", 5)", x -> x.difference(k, 5), BAD);
            refused("difference(" + k + ", -1)", x -> x.difference(k, -1), BAD);
            refused("difference(0, " + k + ")", x -> x.difference(0, k), BAD);
        }
        refused("difference(0, 5)", x -> x.difference(0, 5), BAD);
        refused("difference(behind, 0)", x -> x.difference(x.told(3), 0), NONE);
        CHECK.holds("the last one is there", Lives.lived().difference(Lives.lived().told(3) - 1, 0) >= 0);
        refused("difference(behind, 5)", x -> x.difference(x.told(3), 5), BAD);
        ViewRounds most = withMostDifferences();
        same("all go and others come", most.batch(), 560);
        same("told(3)", most.told(3), 560);
        int[] last = {7, 4, 207, 0, 1};
        for (int what = 0; what <= 4; what++) {
            same("the last one", most.difference(559, what), last[what]);
            same("none behind it", most.difference(560, what), NONE);
        }
        same("taken back", most.undo(), 560);
        same("the first one", most.difference(0, 2), 100);
        same("its sign", most.difference(0, 4), 1);
        same("the last one", most.difference(559, 4), -1);
        valuesOfDifferences();
    }

    private static void valuesOfDifferences() {
        says("1, 2, 3 its values (0 beyond its TERMS), 4 the sign");
        ViewRounds x = Lives.read("a(X):-t(X,Y,Z). b(X,Y):-t(X,Y,Z). c(X,Y,Z):-t(X,Y,Z).");
        x.change(1, 999, 998, 997, 1);
        same("batch()", x.batch(), 3);
        int[][] due = {{0, 999, 0, 0, 1}, {2, 999, 998, 0, 1}, {3, 999, 998, 997, 1}};
        for (int turn = 0; turn < 2; turn++) {
            for (int k = 0; k < 3; k++) {
                for (int what = 0; what <= 4; what++) {
                    int sign = turn == 1 && what == 4 ? -1 : 1;
                    same("difference(" + k + ", " + what + ")", x.difference(k, what), sign * due[k][what]);
                }
            }
            same("none behind them", x.difference(3, 0), NONE);
            if (turn == 0) {
                same("undo()", x.undo(), 3);
            }
        }
        says("of the latest BATCH that was done, or taken back");
        same("no BATCH was done", Lives.read("a(1).").difference(0, 0), NONE);
        same("what is outside comes first", Lives.read("a(1).").difference(0, 5), BAD);
        same("a BATCH without changes", x.batch(), 0);
        same("none of it", x.difference(0, 0), NONE);
        x.change(1, 1, 2, 3, 1);
        same("batch()", x.batch(), 3);
        x.change(1, 1, 2, 4, -1);
        same("a refused BATCH", x.batch(), BAD);
        same("those before stay", x.difference(2, 3), 3);
        x.change(1, 5, 5, 5, 1);
        same("a change", x.difference(2, 3), 3);
        x.drop();
        same("drop()", x.difference(2, 3), 3);
        same("undo()", x.undo(), 3);
        same("taken back", x.difference(2, 4), -1);
        same("undo() of an empty one", x.undo(), 0);
        same("none of it", x.difference(0, 0), NONE);
    }

    // ---- taking back

    private static ViewRounds withBatches(int count) {
        ViewRounds x = Lives.read("a(X):-b(X). n(#):-b(X).");
        for (int i = 0; i < count; i++) {
            x.change(1, i, 0, 0, 1);
            if (i > 0) {
                x.change(1, i - 1, 0, 0, 1);
            }
            CHECK.holds("batch()", x.batch() > 0);
        }
        x.change(1, 500, 0, 0, 1);
        Check.feed(x, "q(X):-");
        return x;
    }

    private static void takenBack() {
        says("The latest BATCH that was done is taken back (up to six, the latest first); NONE: there is none");
        int[] counts = {0, 1, 2, 5, 6, 7, 8, 11, 12, 13, 14, 20};
        for (int count : counts) {
            ViewRounds x = withBatches(count);
            int most = Math.min(6, count);
            for (int i = 0; i < most; i++) {
                same("of " + count + " can be taken back", x.told(4), most - i);
                same("undo() " + i + " of " + count, x.undo(), count - i == 1 ? 2 : 3);
                int left = count - i - 1;
                same("rows", x.of(1, 3), left);
                same("the row that it brought", x.has(1, left, 0, 0), 0);
                same("the row before it", x.has(1, Math.max(0, left - 1), 0, 0), left == 0 ? 0 : 1);
                CHECK.holds("anew", x.anew());
            }
            same("nothing can be taken back", x.told(4), 0);
            same("undo() behind them", x.undo(), NONE);
            same("rows", x.of(1, 3), count - most);
            same("the BATCH under way", x.told(2), 1);
            same("it is done", x.batch(), count == most ? 2 : 3);
        }
        refused("undo() without a BATCH", () -> withBatches(0), ViewRounds::undo, NONE);
        refused("undo() of a seventh", CallEdgesTest::afterSix, ViewRounds::undo, NONE);
        takenBackAndDone();
    }

    private static ViewRounds afterSix() {
        ViewRounds x = withBatches(9);
        for (int i = 0; i < 6; i++) {
            same("undo()", x.undo(), 3);
        }
        return x;
    }

    private static void takenBackAndDone() {
        says("The BATCH under way stays");
        ViewRounds x = withBatches(6);
        same("undo()", x.undo(), 3);
        same("five are left", x.told(4), 5);
        same("the BATCH under way", x.told(2), 1);
        same("it is done", x.batch(), 3);
        same("six again", x.told(4), 6);
        same("its row", x.has(0, 500, 0, 0), 1);
        same("a seventh", x.batch(), 0);
        same("six still", x.told(4), 6);
        same("undo()", x.undo(), 0);
        same("undo()", x.undo(), 3);
        same("its row", x.has(0, 500, 0, 0), 0);
        for (int i = 4; i >= 1; i--) {
            same("undo()", x.undo(), 3);
            same("rows", x.of(1, 3), i);
        }
        same("the first one was pushed out", x.undo(), NONE);
        says("a refused BATCH is none that was done");
        ViewRounds refused = withBatches(3);
        refused.change(1, 600, 0, 0, -1);
        same("BAD", refused.batch(), BAD);
        changes(refused, 1, 100, 140, 1);
        same("FULL", refused.batch(), FULL);
        same("three can be taken back", refused.told(4), 3);
        same("undo()", refused.undo(), 3);
        same("the third is gone", refused.has(0, 2, 0, 0), 0);
        says("no BATCH was done (parse)");
        ViewRounds read = withBatches(6);
        same("parse()", Check.parse(read, Lives.OTHER_HALF), 1);
        same("none can be taken back", read.told(4), 0);
        same("undo()", read.undo(), NONE);
        same("no differences", read.told(3), 0);
    }

    // ---- asking

    private static void rows() {
        says("Of the k-th ROW of a relation, rising: BAD (relation, what); NONE");
        int[] outside = {-1, LOW, HIGH};
        for (int k : outside) {
            refused("row(0, " + k + ", 0)", x -> x.row(0, k, 0), NONE);
            refused("row(0, " + k + ", 4)", x -> x.row(0, k, 4), BAD);
            refused("row(7, " + k + ", 0)", x -> x.row(7, k, 0), BAD);
            refused("row(0, 0, " + k + ")", x -> x.row(0, 0, k), BAD);
        }
        refused("row(0, 0, 4)", x -> x.row(0, 0, 4), BAD);
        for (int relation = 0; relation < Lives.RELATIONS; relation++) {
            int asked = relation;
            for (int what = 0; what <= 3; what++) {
                int part = what;
                CHECK.holds("the last row of " + relation, Lives.lived().row(relation, Lives.lived().of(relation, 3) - 1, what) >= 0);
                refused("the row behind of " + relation, x -> x.row(asked, x.of(asked, 3), part), NONE);
            }
        }
        ViewRounds empty = Lives.read("a(X):-b(X).");
        same("of no rows", empty.row(0, 0, 0), NONE);
        same("of no rows", empty.row(1, 0, 3), NONE);
        ViewRounds forty = Lives.read("a(X):-b(X).");
        changes(forty, 1, 960, 1000, 1);
        same("batch()", forty.batch(), 40);
        for (int relation = 0; relation < 2; relation++) {
            same("the first of 40", forty.row(relation, 0, 0), 960);
            same("the last of 40", forty.row(relation, 39, 0), 999);
            same("its count", forty.row(relation, 39, 3), 1);
            same("none behind it", forty.row(relation, 40, 0), NONE);
        }
    }

    private static void derivations() {
        says("How many DERIVATIONS a ROW of a VIEW has: BAD (no VIEW, value)");
        int[] tables = {E, V, T};
        for (int table : tables) {
            refused("derivations(" + table + ", ..)", x -> x.derivations(table, 1, 1, 1), BAD);
            refused("why(" + table + ", .., 0)", x -> x.why(table, 1, 1, 1, 0), BAD);
        }
        ViewRounds x = Lives.lived();
        same("a row that is not there", x.derivations(P, 9, 9, 0), 0);
        same("a row that is there", x.derivations(P, 1, 2, 0), 2);
        says("with # : that number, if the ROW is there");
        same("n(1, 3)", x.derivations(N, 1, 3, 0), 3);
        same("n(1, 2)", x.derivations(N, 1, 2, 0), 0);
        same("n(1, 4)", x.derivations(N, 1, 4, 0), 0);
        same("n(1, 0)", x.derivations(N, 1, 0, 0), 0);
        same("n(1, 999)", x.derivations(N, 1, 999, 0), 0);
        same("n(9, 3)", x.derivations(N, 9, 3, 0), 0);
    }

    /** A rule with so many variables, the last ones of the alphabet, over one row of values from 10 on. */
    private static void variables(int count, String text) {
        ViewRounds x = Lives.read(text);
        x.change(1, 10, 11, 12, 1);
        x.change(1, 13, 14, 15, 1);
        CHECK.holds("batch()", x.batch() > 0);
        same("its rule", x.why(0, 1, 0, 0, 0), 0);
        same("its variables", x.why(0, 1, 0, 0, 1), count);
        for (int i = 0; i < 6; i++) {
            same("variable " + i + " of " + count, x.why(0, 1, 0, 0, 2 + i), i < count ? 10 + i : NONE);
        }
        same("what above 7", x.why(0, 1, 0, 0, 8), BAD);
        same("what below 0", x.why(0, 1, 0, 0, -1), BAD);
        same("a row without a derivation", x.why(0, 2, 0, 0, 7), NONE);
    }

    private static void reasons() {
        says("BAD (no VIEW, one with #, value, what below 0 or above 7); NONE: there is no DERIVATION, no such variable");
        int[] outside = {-1, 8, LOW, HIGH, 9, -2};
        for (int what : outside) {
            refused("why(0, 1, 2, 0, " + what + ")", x -> x.why(P, 1, 2, 0, what), BAD);
            refused("why(0, 9, 9, 0, " + what + ")", x -> x.why(P, 9, 9, 0, what), BAD);
        }
        for (int what = 0; what <= 7; what++) {
            int part = what;
            refused("why(0, 9, 9, 0, " + what + ")", x -> x.why(P, 9, 9, 0, part), NONE);
            refused("why of #, " + what, x -> x.why(N, 1, 3, 0, part), BAD);
        }
        refused("why(0, 1, 2, 0, 4)", x -> x.why(P, 1, 2, 0, 4), NONE);
        variables(6, "a(1):-t(U,V,W),t(X,Y,Z),Y<15,U<X.");
        variables(5, "a(1):-t(U,V,W),t(X,Y,15),U<X.");
        variables(3, "a(1):-t(U,V,W),U<13.");
        variables(1, "a(1):-t(U,11,12).");
        variables(0, "a(1):-t(10,11,12).");
        says("the rule first, then the values, variables from A on");
        ViewRounds last = Lives.read("a(0).".repeat(15) + "a(1).");
        same("the first of fifteen", last.why(0, 0, 0, 0, 0), 0);
        same("the last of sixteen", last.why(0, 1, 0, 0, 0), 15);
        same("fifteen", last.derivations(0, 0, 0, 0), 15);
        ViewRounds least = Lives.read("a(1):-t(B,A).");
        least.change(1, 0, 999, 0, 1);
        least.change(1, 999, 0, 0, 1);
        least.change(1, 998, 0, 0, 1);
        same("batch()", least.batch(), 1);
        same("A", least.why(0, 1, 0, 0, 2), 0);
        same("B", least.why(0, 1, 0, 0, 3), 998);
    }

    private static void tellings() {
        says("What = 0 rules, .. 5 the greatest LAYER; BAD");
        int[] outside = {-1, 6, 7, LOW, HIGH};
        for (int what : outside) {
            refused("told(" + what + ")", x -> x.told(what), BAD);
        }
        int[] due = {5, Lives.RELATIONS, 2, 1, 2, 2};
        for (int what = 0; what <= 5; what++) {
            same("told(" + what + ")", Lives.lived().told(what), due[what]);
        }
        says("whether VIEWS are as they are worked from nothing");
        refused("anew()", x -> x.anew() ? 1 : 0, 1);
        refused("anew() with a BATCH that is full", () -> withForty(0, 5), x -> x.anew() ? 1 : 0, 1);
    }

    private static void manyCalls() {
        says("An object is used for at most 512 calls after it has been made");
        ViewRounds x = new ViewRounds();
        same("calls 1 and 2", Check.parse(x, "a(1)."), 1);
        same("calls 3 to 5", Check.parse(x, "a(X):-b(X)."), 1);
        for (int call = 6; call < 512; call += 2) {
            int sign = call / 2 % 2 == 1 ? 1 : -1;
            same("call " + call, x.change(1, 5, 0, 0, sign), 1);
            same("call " + (call + 1), x.batch(), 1);
        }
        same("call 512", x.undo(), 1);
    }

    public static void main(String[] args) {
        withoutRules();
        names();
        relations();
        ringsThroughRules();
        values();
        tablesAndSigns();
        changesOfABatch();
        countsOfRows();
        rowsOfATable();
        rowsOfAView();
        numbers();
        badBeforeFull();
        dropped();
        differences();
        takenBack();
        rows();
        derivations();
        reasons();
        tellings();
        manyCalls();
        CHECK.finish();
    }
}
