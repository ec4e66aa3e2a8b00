/**
 * What can be seen of an object, as a text: two objects that look alike and go on alike are alike.
 * A look takes more calls than the document grants an object; the class counts none of them.
 */
final class Look {
    private static final int MOST_RELATIONS = 8;

    private Look() {
    }

    static String at(ViewRounds x) {
        return atFault(x) + atRules(x);
    }

    static String atFault(ViewRounds x) {
        StringBuilder seen = new StringBuilder();
        line(seen, "place", x.place());
        for (int k = -1; k <= MOST_RELATIONS; k++) {
            line(seen, "ring " + k, x.ring(k));
        }
        return seen.toString();
    }

    static String atRules(ViewRounds x) {
        StringBuilder seen = new StringBuilder();
        for (int what = -1; what <= 6; what++) {
            line(seen, "told " + what, x.told(what));
        }
        for (int name = 'a' - 1; name <= 'z' + 1; name++) {
            line(seen, "relation " + name, x.relation(name));
        }
        for (int relation = -1; relation <= MOST_RELATIONS; relation++) {
            for (int what = -1; what <= 5; what++) {
                line(seen, "of " + relation + " " + what, x.of(relation, what));
            }
            rows(seen, x, relation);
        }
        for (int k = -1; k <= x.told(3); k++) {
            for (int what = -1; what <= 5; what++) {
                line(seen, "difference " + k + " " + what, x.difference(k, what));
            }
        }
        line(seen, "anew", x.anew() ? 1 : 0);
        return seen.toString();
    }

    private static void rows(StringBuilder seen, ViewRounds x, int relation) {
        for (int k = -1; k <= x.of(relation, 3); k++) {
            int a = x.row(relation, k, 0);
            int b = x.row(relation, k, 1);
            int c = x.row(relation, k, 2);
            String row = " " + relation + " " + k + " (" + a + " " + b + " " + c + ")";
            line(seen, "row" + row, x.row(relation, k, 3));
            line(seen, "has" + row, x.has(relation, a, b, c));
            line(seen, "derivations" + row, x.derivations(relation, a, b, c));
            for (int what = -1; what <= 8; what++) {
                line(seen, "why" + row + " " + what, x.why(relation, a, b, c, what));
            }
        }
    }

    /** The batch under way, the batches that can be taken back and the text show only in what comes of them. */
    static String onwards(ViewRounds x, boolean backFirst) {
        StringBuilder seen = new StringBuilder();
        if (!backFirst) {
            line(seen, "batch", x.batch());
            seen.append(atRules(x));
        }
        for (int i = 0; i < 8; i++) {
            line(seen, "undo", x.undo());
            seen.append(atRules(x));
        }
        line(seen, "the batch that stayed", x.batch());
        seen.append(atRules(x));
        line(seen, "text", Check.feed(x, Lives.OTHER_HALF));
        line(seen, "parse", x.parse());
        return seen.append(at(x)).toString();
    }

    private static void line(StringBuilder seen, String what, int answer) {
        seen.append(what).append(" -> ").append(answer).append('\n');
    }
}
