/** Short words for what is done to an object, and for what is seen of it. */
final class Story {
    private Story() {
    }

    /** Changes like "e 1 2, -v 4" come to the batch. */
    static void changes(ViewRounds x, String changes) {
        for (String change : changes.split(", ")) {
            boolean less = change.startsWith("-");
            String[] parts = (less ? change.substring(1) : change).split(" ");
            int[] values = new int[3];
            for (int i = 1; i < parts.length; i++) {
                values[i - 1] = Integer.parseInt(parts[i]);
            }
            int table = x.relation(parts[0].charAt(0));
            if (x.change(table, values[0], values[1], values[2], less ? -1 : 1) < 1) {
                throw new IllegalStateException("not taken: " + change);
            }
        }
    }

    static int batch(ViewRounds x, String changes) {
        changes(x, changes);
        return x.batch();
    }

    /** Rows like "1 2, 3 4 *9" with their counts, if these are not 1. */
    static String rows(ViewRounds x, char name) {
        int relation = x.relation(name);
        StringBuilder seen = new StringBuilder();
        for (int k = 0; k < x.of(relation, 3); k++) {
            seen.append(k == 0 ? "" : ", ");
            for (int i = 0; i < x.of(relation, 1); i++) {
                seen.append(i == 0 ? "" : " ").append(x.row(relation, k, i));
            }
            int count = x.row(relation, k, 3);
            seen.append(count == 1 ? "" : " *" + count);
        }
        return seen.toString();
    }

    /** Differences like "+p 1 2, -u 3". */
    static String differences(ViewRounds x) {
        StringBuilder seen = new StringBuilder();
        for (int k = 0; k < x.told(3); k++) {
            int relation = x.difference(k, 0);
            seen.append(k == 0 ? "" : ", ").append(x.difference(k, 4) == 1 ? "+" : x.difference(k, 4) == -1 ? "-" : "?");
            seen.append(nameOf(x, relation));
            for (int i = 0; i < x.of(relation, 1); i++) {
                seen.append(' ').append(x.difference(k, 1 + i));
            }
        }
        return seen.toString();
    }

    static char nameOf(ViewRounds x, int relation) {
        for (char name = 'a'; name <= 'z'; name++) {
            if (x.relation(name) == relation) {
                return name;
            }
        }
        return '?';
    }

    /** The names of the ring, in their order. */
    static String ring(ViewRounds x) {
        StringBuilder seen = new StringBuilder();
        for (int k = 0; k < 9 && x.ring(k) != ViewRounds.NONE; k++) {
            seen.append((char) x.ring(k));
        }
        return seen.toString();
    }

    /** All that why tells of a row, up to the first NONE, like "1: 2 5 7" with the rule and its values. */
    static String why(ViewRounds x, char name, int a, int b, int c) {
        int view = x.relation(name);
        int rule = x.why(view, a, b, c, 0);
        if (rule < 0) {
            return "none";
        }
        StringBuilder seen = new StringBuilder().append(rule).append(':');
        for (int i = 0; i < x.why(view, a, b, c, 1); i++) {
            seen.append(' ').append(x.why(view, a, b, c, 2 + i));
        }
        return seen.toString();
    }
}
