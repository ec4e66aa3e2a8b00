/** Objects that have something to lose: each one has half a text that waits for its other half. */
final class Lives {
    /** Relations: p 0, e 1, u 2, v 3, n 4, w 5, t 6, with 2, 2, 1, 1, 2, 3, 3 terms. */
    static final String RULES = "p(X,Y):-e(X,Y). p(X,Y):-p(X,Z),e(Z,Y). u(X):-v(X),~p(1,X). n(X,#):-p(X,Y). w(Z,Y,X):-t(X,Y,Z),X<500.";
    static final int P = 0, E = 1, U = 2, V = 3, N = 4, W = 5, T = 6, RELATIONS = 7;
    private static final String HALF = "q(X):-";
    static final String OTHER_HALF = "r(X).";

    private Lives() {
    }

    private static ViewRounds withHalf(ViewRounds x) {
        Check.feed(x, HALF);
        return x;
    }

    static ViewRounds fresh() {
        return withHalf(new ViewRounds());
    }

    /** A ring was refused, so that there are a place and a ring but no rules. */
    static ViewRounds refused() {
        ViewRounds x = new ViewRounds();
        Check.parse(x, "k(X):-t(X),~l(X). l(X):-k(X),m(X). m(X):-l(X).");
        return withHalf(x);
    }

    /** Rules without a text that waits. */
    static ViewRounds read(String rules) {
        ViewRounds x = new ViewRounds();
        if (Check.parse(x, rules) <= 0) {
            throw new IllegalStateException("no rules: " + rules);
        }
        return x;
    }

    /** Three batches were done, one was taken back, one is under way. */
    static ViewRounds lived() {
        ViewRounds x = read(RULES);
        x.change(E, 1, 2, 0, 1);
        x.change(E, 2, 3, 0, 1);
        x.change(V, 2, 0, 0, 1);
        x.change(V, 9, 0, 0, 1);
        x.batch();
        x.change(E, 3, 1, 0, 1);
        x.change(E, 3, 1, 0, 1);
        x.change(V, 999, 0, 0, 1);
        x.change(T, 0, 999, 5, 1);
        x.batch();
        x.change(V, 0, 0, 0, 1);
        x.batch();
        x.undo();
        x.change(E, 2, 3, 0, -1);
        x.change(T, 4, 4, 4, 1);
        return withHalf(x);
    }
}
