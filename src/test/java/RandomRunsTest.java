import java.util.ArrayList;
import java.util.List;
import java.util.Random;

/** Random texts and random runs of calls: the class answers each call as the oracle does. */
public final class RandomRunsTest {
    private static final int RUNS = 6000;
    private static final int CALLS = 160;
    private static final int TEXTS = 10;
    private static final String SIGNS = "pqXY19(),.:-~#<=! \n\tz\u00ff\u00e1@[`{/;";
    private static final String[] GOOD_TEXTS = {
        "p(X,Y):-e(X,Y). p(X,Y):-p(X,Z),e(Z,Y). u(X):-v(X),~p(1,X). n(X,#):-p(X,Y).",
        "p(X,Y):-e(X,Y). p(X,Y):-p(X,Z),p(Z,Y). r(X):-p(X,X). d(#):-p(X,Y),p(Y,Z),p(Z,W),X!W.",
        "o(X):-q(X).q(X):-o(X).q(X):-v(X),~z(X). z(X):-w(X,Y,Y),Y<3.",
        "c(X,Y,#):-v(X),w(Y,Z,U),~x(Z). m(#):-c(X,Y,Z),1<Z. k(Z):-m(Z),Z!2.",
        "a(X,Y,Z):-v(X),v(Y),v(Z). n(#):-a(X,Y,Z),X<Y,Y<Z.",
        "n(#):-v(X),v(Y),v(Z). m(X,#):-v(X),v(Y),~v(0). s(1). s(X):-n(X).",
        "s(X):-t(X). t(X):-s(X). t(Y):-s(X),f(X,Y). s(0):-g(X). h(X):-g(X),~t(X). i(X,#):-g(X),t(Y),Y!X.",
        "p(X):-e(X,Y),q(Y). q(X):-e(X,Y),p(Y). q(7):-v(X),X=X. r(X,Y):-p(X),q(Y),~e(X,Y),X!Y.",
        "a(X):-t(X),~b(X). b(X):-t(X),~c(X). c(X):-t(X),~d(X,1). d(X,#):-t(X),u(Y),X!Y. c(X):-d(X,Y),c(Y).",
        "v(0).v(1).v(2).v(3).v(4).v(5).v(6).w(X):-t(X). w(X):-v(X). q(X,Y):-w(X),w(Y),X<Y,Y<6.",
        "a(B,A):-e(A,B). a(Z,A):-e(A,Q),e(Q,Z). b(X):-a(X,Y),a(Y,X). y(999). y(0). y(X):-b(X).",
    };

    private final Random random;
    private final Check check;
    private final ViewRounds views = new ViewRounds();
    private final Oracle oracle = new Oracle();
    private final StringBuilder calls = new StringBuilder();

    private RandomRunsTest(long seed, Check check) {
        this.random = new Random(seed);
        this.check = check;
    }

    private void same(String call, long got, long due) {
        calls.append(call).append(" -> ").append(due).append('\n');
        boolean clean = check.isClean();
        check.same(call, got, due);
        if (clean && got != due) {
            System.out.println("the run so far:\n" + calls);
        }
    }

    private int pick(int below) {
        return random.nextInt(below);
    }

    private String oneOf(List<String> list) {
        return list.get(pick(list.size()));
    }

    // ---- texts

    private String text() {
        int kind = pick(10);
        String text = kind < 4 ? GOOD_TEXTS[pick(GOOD_TEXTS.length)] : madeText();
        if (pick(4) == 0) {
            text = spoiled(text);
        }
        return pick(4) == 0 ? spaced(text) : text;
    }

    private String madeText() {
        String names = "pqrstuvwxy".substring(0, 3 + pick(pick(8) == 0 ? 8 : 4));
        int[] sizes = new int[names.length()];
        for (int i = 0; i < sizes.length; i++) {
            sizes[i] = 1 + pick(3);
        }
        StringBuilder text = new StringBuilder();
        int rules = pick(15) == 0 ? 14 + pick(5) : 1 + pick(5);
        int counted = pick(3) == 0 ? pick(names.length()) : -1;
        boolean ordered = pick(3) != 0;
        for (int i = 0; i < rules; i++) {
            text.append(madeRule(names, sizes, counted, ordered));
        }
        return text.toString();
    }

    private String madeRule(String names, int[] sizes, int counted, boolean ordered) {
        List<String> held = new ArrayList<>();
        List<String> literals = new ArrayList<>();
        int head = pick(names.length() - 1);
        int positive = pick(8) == 0 ? 0 : 1 + pick(pick(40) == 0 ? 4 : 3);
        for (int i = 0; i < positive; i++) {
            int relation = ordered ? Math.min(names.length() - 1, head + pick(3)) : pick(names.length());
            literals.add(atom(names, sizes, relation, held, true));
        }
        int tests = pick(3) == 0 ? pick(pick(20) == 0 ? 4 : 3) : 0;
        for (int i = 0; i < tests; i++) {
            int relation = ordered ? Math.min(names.length() - 1, head + 1 + pick(3)) : pick(names.length());
            String test = pick(2) == 0 ? "~" + atom(names, sizes, relation, held, false)
                : term(held, false) + "<=!".charAt(pick(3)) + term(held, false);
            literals.add(pick(literals.size() + 1), test);
        }
        String made = atom(names, sizes, head, held, false);
        if (head == counted) {
            made = made.substring(0, Math.max(made.lastIndexOf(','), made.indexOf('(')) + 1) + "#)";
        }
        return made + (literals.isEmpty() ? "" : ":-" + String.join(",", literals)) + ".";
    }

    private String atom(String names, int[] sizes, int relation, List<String> held, boolean holds) {
        List<String> terms = new ArrayList<>();
        int size = pick(200) == 0 ? 1 + pick(4) : sizes[relation];
        for (int i = 0; i < size; i++) {
            terms.add(term(held, holds));
        }
        return names.charAt(relation) + "(" + String.join(",", terms) + ")";
    }

    private String term(List<String> held, boolean holds) {
        if (holds && (held.isEmpty() || pick(3) != 0)) {
            held.add(String.valueOf("ABCDEFXYZ".charAt(pick(pick(10) == 0 ? 9 : 5))));
            return held.get(held.size() - 1);
        }
        if (pick(100) == 0) {
            return "Q";
        }
        return held.isEmpty() || pick(5) == 0 ? String.valueOf(pick(4)) : oneOf(held);
    }

    private String spoiled(String text) {
        StringBuilder spoiled = new StringBuilder(text);
        int times = 1 + pick(2);
        for (int i = 0; i < times && spoiled.length() > 0; i++) {
            int at = pick(spoiled.length());
            String sign = String.valueOf(SIGNS.charAt(pick(SIGNS.length())));
            switch (pick(4)) {
                case 0 -> spoiled.deleteCharAt(at);
                case 1 -> spoiled.insert(at, sign);
                case 2 -> spoiled.setLength(at);
                default -> spoiled.replace(at, at + 1, sign);
            }
        }
        return spoiled.toString();
    }

    private String spaced(String text) {
        StringBuilder spaced = new StringBuilder();
        for (int i = 0; i < text.length(); i++) {
            spaced.append(pick(3) == 0 ? " " : "").append(pick(9) == 0 ? "\n" : "").append(text.charAt(i));
        }
        return spaced.append(pick(2) == 0 ? " \n" : "").toString();
    }

    // ---- calls

    private void feed(long bytes, int n) {
        same("feed(" + bytes + "L, " + n + ")", views.feed(bytes, n), oracle.feed(bytes, n));
    }

    private void feedText(String text) {
        calls.append(text).append('\n');
        for (int from = 0; from < text.length();) {
            int n = Math.min(pick(10) == 0 ? 1 + pick(8) : 8, text.length() - from);
            long bytes = random.nextLong();
            for (int i = n - 1; i >= 0; i--) {
                bytes = bytes << 8 | text.charAt(from + i) & 255;
            }
            feed(bytes, n);
            from += n;
        }
    }

    private void parse() {
        same("parse()", views.parse(), oracle.parse());
        same("place()", views.place(), oracle.place());
        for (int i = -1; i < 9; i++) {
            same("ring(" + i + ")", views.ring(i), oracle.ring(i));
        }
        sameTold();
        for (int i = 0; i < 9; i++) {
            for (int what = 0; what < 5; what++) {
                same("of(" + i + ", " + what + ")", views.of(i, what), oracle.of(i, what));
            }
        }
    }

    private void sameTold() {
        for (int what = -1; what < 7; what++) {
            same("told(" + what + ")", views.told(what), oracle.told(what));
        }
    }

    private int wild() {
        int[] edges = {-1, -2, 7, 8, 9, 40, 41, 59, 998, 999, 1000, 1001, Integer.MAX_VALUE, Integer.MIN_VALUE, 97, 122};
        return edges[pick(edges.length)];
    }

    private int value() {
        return pick(60) == 0 ? wild() : pick(5);
    }

    private int relation() {
        return pick(60) == 0 ? wild() : pick(Math.max(1, oracle.told(1)));
    }

    private void change() {
        int table = relation();
        for (int i = 0; i < 8 && oracle.of(table, 0) == 1 && pick(20) != 0; i++) {
            table = relation();
        }
        int a = value();
        int b = value();
        int c = value();
        int sign = pick(80) == 0 ? wild() : oracle.has(table, a, b, c) > 0 && pick(2) == 0 ? -1 : pick(20) == 0 ? -1 : 1;
        same("change(" + table + ", " + a + ", " + b + ", " + c + ", " + sign + ")",
            views.change(table, a, b, c, sign), oracle.change(table, a, b, c, sign));
    }

    private void manyChanges() {
        int table = relation();
        int times = pick(70);
        for (int i = 0; i < times; i++) {
            int a = pick(12);
            int b = pick(6);
            int c = pick(2);
            int sign = pick(20) == 0 || oracle.has(table, a, b, c) > 0 ? -1 : 1;
            same("change(" + table + ", " + a + ", " + b + ", " + c + ", " + sign + ")",
                views.change(table, a, b, c, sign), oracle.change(table, a, b, c, sign));
        }
        batch();
    }

    private void batch() {
        same("batch()", views.batch(), oracle.batch());
        sameState();
    }

    private void sameState() {
        sameTold();
        for (int k = -1; k <= oracle.told(3); k++) {
            for (int what = 0; what < 5; what++) {
                same("difference(" + k + ", " + what + ")", views.difference(k, what), oracle.difference(k, what));
            }
        }
        for (int i = 0; i < oracle.told(1); i++) {
            same("of(" + i + ", 3)", views.of(i, 3), oracle.of(i, 3));
            for (int k = 0; k <= oracle.of(i, 3); k++) {
                for (int what = 0; what < 4; what++) {
                    same("row(" + i + ", " + k + ", " + what + ")", views.row(i, k, what), oracle.row(i, k, what));
                }
            }
        }
        same("anew()", views.anew() ? 1 : 0, oracle.anew() ? 1 : 0);
    }

    private void askOfRow() {
        int relation = relation();
        int k = pick(3) == 0 ? 0 : pick(Math.max(1, oracle.of(relation, 3)));
        boolean standing = pick(3) != 0;
        int a = standing ? Math.max(0, oracle.row(relation, k, 0)) : value();
        int b = standing ? Math.max(0, oracle.row(relation, k, 1)) : value();
        int c = standing ? Math.max(0, oracle.row(relation, k, 2)) : value();
        String row = "(" + relation + ", " + a + ", " + b + ", " + c;
        same("has" + row + ")", views.has(relation, a, b, c), oracle.has(relation, a, b, c));
        same("derivations" + row + ")", views.derivations(relation, a, b, c), oracle.derivations(relation, a, b, c));
        for (int what = -1; what < 9; what++) {
            same("why" + row + ", " + what + ")", views.why(relation, a, b, c, what), oracle.why(relation, a, b, c, what));
        }
    }

    private void askWildly() {
        int a = wild();
        int b = wild();
        int c = wild();
        int d = wild();
        same("ring(" + a + ")", views.ring(a), oracle.ring(a));
        same("relation(" + a + ")", views.relation(a), oracle.relation(a));
        same("of(" + a + ", " + b + ")", views.of(a, b), oracle.of(a, b));
        same("of(0, " + b + ")", views.of(0, b), oracle.of(0, b));
        same("difference(" + a + ", " + b + ")", views.difference(a, b), oracle.difference(a, b));
        same("difference(" + a + ", 0)", views.difference(a, 0), oracle.difference(a, 0));
        same("difference(0, " + b + ")", views.difference(0, b), oracle.difference(0, b));
        same("row(" + a + ", " + b + ", " + c + ")", views.row(a, b, c), oracle.row(a, b, c));
        same("row(0, " + b + ", 3)", views.row(0, b, 3), oracle.row(0, b, 3));
        same("row(0, 0, " + c + ")", views.row(0, 0, c), oracle.row(0, 0, c));
        same("has(" + a + ", ..)", views.has(a, b, c, d), oracle.has(a, b, c, d));
        same("has(0, " + b + ", " + c + ", " + d + ")", views.has(0, b, c, d), oracle.has(0, b, c, d));
        same("derivations(0, ..)", views.derivations(0, b, c, d), oracle.derivations(0, b, c, d));
        same("derivations(" + a + ", ..)", views.derivations(a, b, c, d), oracle.derivations(a, b, c, d));
        same("why(0, 0, 0, 0, " + d + ")", views.why(0, 0, 0, 0, d), oracle.why(0, 0, 0, 0, d));
        same("why(" + a + ", 0, 0, 0, 0)", views.why(a, 0, 0, 0, 0), oracle.why(a, 0, 0, 0, 0));
        same("told(" + a + ")", views.told(a), oracle.told(a));
        same("feed(0, " + a + ")", a == 7 || a == 8 ? 0 : views.feed(0, a), a == 7 || a == 8 ? 0 : oracle.feed(0, a));
        for (int name = 'a' - 1; name <= 'z' + 1; name++) {
            same("relation(" + name + ")", views.relation(name), oracle.relation(name));
        }
    }

    private void oneCall() {
        int kind = pick(100);
        if (kind < 50) {
            change();
        } else if (kind < 64) {
            batch();
        } else if (kind < 70) {
            same("undo()", views.undo(), oracle.undo());
            sameState();
        } else if (kind < 72) {
            same("drop()", views.drop(), oracle.drop());
        } else if (kind < 92) {
            askOfRow();
        } else if (kind < 96) {
            askWildly();
        } else if (kind < 98) {
            manyChanges();
        } else if (kind == 98) {
            feed(random.nextLong(), pick(10));
        } else if (pick(3) == 0) {
            feedText(text());
            parse();
        }
    }

    private void run() {
        for (int i = 0; i < TEXTS && (i == 0 || pick(5) != 0 || oracle.told(0) == 0); i++) {
            feedText(text());
            parse();
        }
        for (int i = 0; i < CALLS && check.isClean(); i++) {
            oneCall();
        }
    }

    public static void main(String[] args) {
        int runs = args.length > 0 ? Integer.parseInt(args[0]) : RUNS;
        long seed = args.length > 1 ? Long.parseLong(args[1]) : 1;
        Check check = new Check();
        for (int i = 0; i < runs && check.isClean(); i++) {
            new RandomRunsTest(seed * 1000003 + i, check).run();
        }
        check.finish();
    }
}
