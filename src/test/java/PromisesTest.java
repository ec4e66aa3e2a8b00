/**
 * The promises of the document, sentence by sentence up to its end: ordinary inputs, the edges that it names, and
 * wrong inputs.
 */
public final class PromisesTest {
    private static final int NONE = -1, BAD = -2, FULL = -3, STATE = -4;
    private static final int LOW = Integer.MIN_VALUE, HIGH = Integer.MAX_VALUE;
    /** Relations: p 0, e 1, u 2, v 3, n 4. */
    private static final String PATHS =
        "p(X,Y):-e(X,Y). p(X,Y):-p(X,Z),e(Z,Y). u(X):-v(X),~p(1,X). n(X,#):-p(X,Y).";
    private static final Check CHECK = new Check();
    private static Document document;

    private interface Call {
        int on(ViewRounds x);
    }

    private static void promise(int number, String name, String header) {
        document.says("## Promise " + number + ": " + name + " `" + header + "`:");
    }

    private static void says(String words) {
        document.says(words);
    }

    private static void same(String call, long got, long due) {
        CHECK.same(call, got, due);
    }

    private static ViewRounds made(String text) {
        ViewRounds x = new ViewRounds();
        CHECK.holds("rules: " + text, Check.parse(x, text) > 0);
        return x;
    }

    private static void parses(String text, int due) {
        ViewRounds x = new ViewRounds();
        same("parse of " + text, Check.parse(x, text), due);
        same("place of " + text, x.place(), NONE);
    }

    /** A text with a mark before the byte where the fault is due. */
    private static void faults(int fault, String marked) {
        int place = marked.indexOf('^');
        String text = marked.substring(0, place) + marked.substring(place + 1);
        ViewRounds x = new ViewRounds();
        same("parse of " + marked, Check.parse(x, text), -10 - fault);
        same("place of " + marked, x.place(), place);
        same("rules after " + marked, x.told(0), 0);
    }

    private static void rows(ViewRounds x, int relation, int... firsts) {
        same("rows of " + relation, x.of(relation, 3), firsts.length);
        for (int i = 0; i < firsts.length; i++) {
            same("row " + i + " of " + relation, x.row(relation, i, 0), firsts[i]);
        }
    }

    private static void add(ViewRounds x, int table, int a, int b, int c) {
        CHECK.holds("a change is taken", x.change(table, a, b, c, 1) > 0);
    }

    private static void isDifference(ViewRounds x, int k, int view, int a, int b, int c, int sign) {
        int[] due = {view, a, b, c, sign};
        for (int what = 0; what < 5; what++) {
            same("difference(" + k + ", " + what + ")", x.difference(k, what), due[what]);
        }
    }

    /** Objects without rules, of each kind: new, after a fault, after a text that is full, after blanks. */
    private static ViewRounds[] withoutRules() {
        ViewRounds[] all = {new ViewRounds(), made(PATHS), made(PATHS), made(PATHS)};
        for (int i = 1; i < all.length; i++) {
            add(all[i], 1, 1, 2, 0);
            CHECK.holds("batch", all[i].batch() > 0);
            add(all[i], 1, 2, 3, 0);
        }
        same("a fault", Check.parse(all[1], "a(X)."), -14);
        same("a full text", Check.parse(all[2], "v(1).v(2).v(3).v(4).v(5).v(6).v(7).p(X,Y):-v(X),v(Y)."), FULL);
        same("blanks", Check.parse(all[3], " \n"), 0);
        return all;
    }

    /** STATE, whether the arguments are right or not. */
    private static void states(Call right, Call wrong) {
        for (ViewRounds x : withoutRules()) {
            same("without rules", right.on(x), STATE);
            same("without rules, and wrong", wrong.on(x), STATE);
        }
    }

    private static void asksWithoutRules(ViewRounds x) {
        for (int what = 0; what < 6; what++) {
            same("told(" + what + ") without rules", x.told(what), 0);
        }
        same("relation", x.relation('a'), STATE);
        same("of", x.of(0, 0), STATE);
        same("change", x.change(1, 1, 1, 1, 1), STATE);
        same("batch", x.batch(), STATE);
        same("drop", x.drop(), STATE);
        same("difference", x.difference(0, 0), STATE);
        same("undo", x.undo(), STATE);
        same("has", x.has(0, 1, 1, 1), STATE);
        same("row", x.row(0, 0, 0), STATE);
        same("derivations", x.derivations(0, 1, 1, 1), STATE);
        same("why", x.why(0, 1, 1, 1, 0), STATE);
        same("anew", x.anew() ? 1 : 0, 0);
    }

    private static void promise1() {
        promise(1, "A new object", "ViewRounds()");
        says("No text, no rules.");
        ViewRounds x = new ViewRounds();
        asksWithoutRules(x);
        same("place", x.place(), NONE);
        same("ring", x.ring(0), NONE);
        same("the first byte of a text", x.feed('a', 1), 1);
        same("a text of nothing", new ViewRounds().parse(), 0);
        ViewRounds one = made("a(1).");
        asksWithoutRules(new ViewRounds());
        same("objects have nothing in common", one.told(0), 1);
    }

    private static void promise2() {
        promise(2, "feed", "int feed(long bytes, int n)");
        says("The n lowest bytes of a number, the lowest first, come behind the text: how many it has.");
        ViewRounds x = new ViewRounds();
        same("feed a(1)", x.feed(0x7f7f7f7f00000000L | 'a' | '(' << 8 | '1' << 16 | ')' << 24, 4), 4);
        same("feed .", x.feed(-1L << 8 | '.', 1), 5);
        same("parse", x.parse(), 1);
        same("relation", x.relation('a'), 0);
        same("has", x.has(0, 1, 0, 0), 1);
        bytesInPieces();
        same("bytes 255", x.feed(-1L, 8), 8);
        same("parse of bytes 255", x.parse(), -11);
        same("place", x.place(), 0);
        says("BAD: n is not 1 .. 8; FULL: more than 600.");
        int[] wrong = {0, 9, -1, LOW, HIGH};
        for (int n : wrong) {
            same("feed(1, " + n + ")", x.feed(1, n), BAD);
        }
        for (int i = 1; i <= 74; i++) {
            same("feed", x.feed(0x2020202020202020L, 8), 8 * i);
        }
        same("feed to 599", x.feed(0x20202020202020L, 7), 599);
        same("feed beyond 600", x.feed(0x3f3f, 2), FULL);
        same("BAD comes before FULL", x.feed(0x2020, 9), BAD);
        same("feed to 600", x.feed(' ', 1), 600);
        same("feed to 601", x.feed('?', 1), FULL);
        same("nothing of that came", x.parse(), 0);
        same("the text is empty then", x.feed(' ', 1), 1);
    }

    /** One text in pieces of each length, with other bytes above those that count. */
    private static void bytesInPieces() {
        String text = "b(12,X):-c(X),~d(X,3),X<999. ";
        for (int n = 1; n <= 8; n++) {
            ViewRounds x = new ViewRounds();
            for (int from = 0; from < text.length(); from += n) {
                int size = Math.min(n, text.length() - from);
                long bytes = 0x3f3f3f3f3f3f3f3fL;
                for (int i = 0; i < size; i++) {
                    bytes = bytes & ~(255L << 8 * i) | (long) text.charAt(from + i) << 8 * i;
                }
                same("feed", x.feed(bytes, size), from + size);
            }
            same("parse of pieces of " + n, x.parse(), 1);
            add(x, 1, 7, 0, 0);
            same("batch", x.batch(), 1);
            same("b(12, 7)", x.has(0, 12, 7, 0), 1);
        }
    }

    private static void promise3() {
        promise(3, "parse", "int parse()");
        says("The text (empty then) is read: how many rules, which are the rules from now on, in place of others;");
        parses("a(1):-b(1).", 1);
        parses("c(5).", 1);
        parses("c ( 5 ) .\nd(X): -c(X) , X\n< 7,~ c ( 0\n) .", 2);
        parses("a(0,00,000). a(999,1,12).", 2);
        parses("a(#):-1<2.", 1);
        parses("a(X,#):-b(X),c(X),d(X),~e(X),X!3.", 1);
        parses("a(1):-b(A,B,C),b(D,E,F),b(A,B,C),A<B,~b(F,E,D).", 1);
        parses("a(X):-b(X),c(X),d(X).e(X):-f(X),g(X),h(X).", 2);
        for (int count = 1; count <= 16; count++) {
            parses("a(1).".repeat(count), count);
        }
        parsesInPlaceOfOthers();
        says("TABLES are empty, VIEWS as they are then,");
        viewsOfEmptyTables();
        says("the BATCH under way is empty (with a FAULT and FULL, too), no BATCH was done");
        parsesInABatch();
        says("(FULL: they would not fit; there are no rules then).");
        parsesThatAreFull();
        says("Or -10 less a FAULT; there are no rules then.");
        wrongSigns();
        otherFaults();
        says("(A text of blanks alone has 0 rules, that are none.)");
        String[] blanks = {"", " ", "\n", " \n ", " ".repeat(600)};
        for (String text : blanks) {
            parses(text, 0);
            ViewRounds x = made(PATHS);
            same("parse", Check.parse(x, text), 0);
            asksWithoutRules(x);
        }
    }

    private static void wrongSigns() {
        String[] texts = {"^A(1).", "^(", "^1.", "a^", "a^.", "a(^", "a(^).", "a(^,1).", "a(^b).", "a(1^", "a(1^.", "a(1 ^", "a(1,^).",
            "a(1,2,3^,4).", "a(1^#).", "a(#^,1):-b(1).", "a(#^#):-b(1).", "a(1 ^2).", "a(1\n^2).", "a(123^4).", "a(X^Y).", "a(X^1).",
            "a(1)^", "a(1)^,", "a(1):^", "a(1):^b(1).", "a(1):-^", "a(1):-^.", "a(1):-^#", "a(1):-~^~b(1).", "a(1):-~^X<1.",
            "a(1):-b(1)^", "a(1):-b(1)^:", "a(1):-b(1),^.", "a(1):-b(1),^,", "a(1):-b(^#).", "a(1):-1^.", "a(1):-1^>2.", "a(1):-1<^",
            "a(1):-1<^b(1).", "a(1):-1<2^<3.", "a(1):-b(X),X<100^0.", "a(1).^.", "a(1).^\t", "a(1). ^~b(1).", "^\u00e1(1)."};
        for (String text : texts) {
            faults(1, text);
        }
    }

    private static void otherFaults() {
        faults(2, "a(1). a(1,2^).");
        faults(2, "a(X,Y):-b(X,Y),~b(X^).");
        faults(2, "a(X):-a(X,X ^).");
        faults(2, "a(X,#):-b(X). c(1):-a(1^).");
        faults(3, "a(X):-b(X),c(X),d(X).e(X):-f(X),g(X),h(X).^i(1).");
        faults(3, "a(X):-b(X),c(X),d(X).e(X):-f(X),g(X),h(X),~ ^i(1).");
        faults(3, "a(1).".repeat(16) + " ^a(1).");
        faults(1, "a(1).".repeat(16) + " ^A");
        faults(3, "a(1):-1=1,1=1,1=1,1=1,1=1,^1=1.");
        faults(3, "a(1):-1=1,1=1,1=1,1=1,1=1,^X");
        faults(3, "a(1):-1=1,1=1,1=1,1=1,1=1,^~");
        faults(3, "a(1):-1=1,1=1,1=1,1=1,1=1,^b");
        faults(1, "a(1):-1=1,1=1,1=1,1=1,1=1,^.");
        faults(3, "a(1):-b(1),b(1),b(1),^b(1).");
        faults(3, "a(1):-b(1),~b(2),b(1),b(1),^b(1).");
        faults(3, "a(1):-b(A,B,C),b(D,E,F),b(A,B,^G).");
        faults(3, "a(A,B,C):-b(D,E,F),^G<1.");
        faults(4, "a(X)^.");
        faults(4, "a(X):-b(Y)^.");
        faults(4, "a(1):-b(X),~b(Y)^.");
        faults(4, "a(1):-b(X),Y=X^.");
        faults(4, "a(X):-X=1^.");
        faults(4, "a(X,#)^.");
        faults(4, "c(1). a(Y,#):-b(X) ^. a(1).");
        faults(5, "a(#)^.");
        faults(5, "a(#):-b(X). a(1)^.");
        faults(5, "a(1). a(#):-b(X)^.");
        faults(5, "a(#):-b(X). a(#):-b(X)^.");
        faults(4, "a(#):-b(X). a(Y):-b(X)^.");
        faults(6, "w(X):-e(X,Y),~w(Y).^");
        faults(6, "n(#):-n(X). ^");
        faults(6, "n(#):-m(X).m(X):-n(X).^");
        faults(1, "n(#):-n(X). n^");
        faults(4, "n(#):-n(X). m(X)^. ?");
    }

    private static void parsesInPlaceOfOthers() {
        ViewRounds x = made(PATHS);
        same("parse of other rules", Check.parse(x, "a(X):-b(X). a(7)."), 2);
        same("rules", x.told(0), 2);
        same("relations", x.told(1), 2);
        same("a relation of before", x.relation('p'), NONE);
        same("a relation of now", x.relation('b'), 1);
        same("the text is empty", x.parse(), 0);
        same("the rules are gone", x.told(0), 0);
        same("half a text", Check.feed(x, "a(1)"), 4);
        same("is no rule", x.parse(), -11);
        same("its other half alone", Check.parse(x, "."), -11);
        same("at its first sign", x.place(), 0);
    }

    private static void viewsOfEmptyTables() {
        ViewRounds x = made("a(7). b(X):-a(X),~c(X). d(#):-b(X). e(X):-c(X). f(#):-c(X). g(1):-~c(1).");
        rows(x, x.relation('a'), 7);
        rows(x, x.relation('b'), 7);
        rows(x, x.relation('c'));
        rows(x, x.relation('d'), 1);
        rows(x, x.relation('e'));
        rows(x, x.relation('f'));
        rows(x, x.relation('g'), 1);
        same("they are no differences", x.told(3), 0);
        CHECK.holds("anew", x.anew());
        ViewRounds again = made(PATHS);
        add(again, 1, 1, 2, 0);
        add(again, 3, 7, 0, 0);
        same("batch", again.batch(), 3);
        same("parse of the same rules", Check.parse(again, PATHS), 4);
        for (int relation = 0; relation < 5; relation++) {
            rows(again, relation);
        }
        same("a row of before", again.has(1, 1, 2, 0), 0);
    }

    private static void parsesInABatch() {
        String[] texts = {PATHS, "a", "v(1).v(2).v(3).v(4).v(5).v(6).v(7).p(X,Y):-v(X),v(Y).", " "};
        int[] answers = {4, -11, FULL, 0};
        for (int i = 0; i < texts.length; i++) {
            ViewRounds x = made(PATHS);
            add(x, 1, 1, 2, 0);
            same("batch", x.batch(), 2);
            add(x, 1, 2, 3, 0);
            same("parse", Check.parse(x, texts[i]), answers[i]);
            if (i > 0) {
                asksWithoutRules(x);
                same("parse", Check.parse(x, PATHS), 4);
            }
            same("changes", x.told(2), 0);
            same("nothing to drop", x.drop(), 0);
            same("no differences", x.told(3), 0);
            same("no difference", x.difference(0, 0), NONE);
            same("nothing to take back", x.told(4), 0);
            same("no batch was done", x.undo(), NONE);
            same("nothing in the batch", x.batch(), 0);
            rows(x, 0);
            rows(x, 1);
        }
    }

    private static void parsesThatAreFull() {
        StringBuilder facts = new StringBuilder();
        for (int i = 0; i < 10; i++) {
            facts.append("v(").append(i).append(").");
            ViewRounds x = made(PATHS);
            add(x, 1, 1, 2, 0);
            same("pairs of " + (i + 1), Check.parse(x, facts + "p(X,Y):-v(X),v(Y)."), i < 6 ? i + 2 : FULL);
            same("place", x.place(), NONE);
            if (i >= 6) {
                asksWithoutRules(x);
            }
            same("triples of " + (i + 1), Check.parse(x, facts + "n(#):-v(X),v(Y),v(Z)."), i < 9 ? i + 2 : FULL);
            same("number", x.row(1, 0, 0), i < 9 ? (i + 1) * (i + 1) * (i + 1) : STATE);
        }
    }

    private static void promise4() {
        promise(4, "place", "int place()");
        says("The PLACE of the FAULT of the latest parse(); NONE.");
        ViewRounds x = new ViewRounds();
        same("parse", Check.parse(x, "a(1)"), -11);
        same("place", x.place(), 4);
        same("feed", x.feed('a', 1), 1);
        same("place stays", x.place(), 4);
        same("parse", Check.parse(x, "(1)."), 1);
        same("place after a good text", x.place(), NONE);
        same("parse", Check.parse(x, " ~"), -11);
        same("place", x.place(), 1);
        same("parse of nothing", x.parse(), 0);
        same("place", x.place(), NONE);
        same("parse", Check.parse(x, "a(X)."), -14);
        same("place", x.place(), 4);
        same("parse of a text that is full", Check.parse(x, "v(1).v(2).v(3).v(4).v(5).v(6).v(7).p(X,Y):-v(X),v(Y)."), FULL);
        same("that is no fault", x.place(), NONE);
    }

    private static void promise5() {
        promise(5, "ring", "int ring(int k)");
        says("The k-th relation's name (a .. z) of THE RING of the latest parse(), by numbers from the least on; NONE.");
        ringIs("w(X):-e(X,Y),~w(Y).", "w");
        ringIs("n(#):-n(X).", "n");
        ringIs("z(X):-t(X),y(X). y(X):-x(X). x(X):-t(X),~z(X). r(X):-z(X). s(X):-s(X).", "zyx");
        // the first ring that may be is one without a negation, the second one counts
        ringIs("a(X):-a(X),t(X). d(X):-t(X),~c(X). c(X):-d(X). f(X):-t(X),~f(X).", "dc");
        ringIs("f(X):-t(X),~g(X). g(X):-h(X). h(X):-t(X). d(X):-c(X). c(#):-d(X).", "dc");
        // two rings that share a relation are one
        ringIs("a(X):-b(X). b(X):-a(X),c(X). c(X):-b(X),~c(X).", "abc");
        ringIs("k(X):-t(X),~l(X). l(X):-k(X),m(X). m(X):-l(X). t(1):-t(X).", "klm");
        ringIs("a(X):-b(X),c(X). c(X):-e(X),~c(X). b(X):-e(X),~b(X).", "b");
        ViewRounds x = made("p(X):-p(X),t(X).");
        same("no ring is refused", x.ring(0), NONE);
        same("no parse, no ring", new ViewRounds().ring(0), NONE);
        same("parse", Check.parse(x, "w(#):-w(X)."), -16);
        Check.feed(x, "w");
        same("it stays while a text comes", x.ring(0), 'w');
        same("parse", Check.parse(x, "(1)."), 1);
        same("a good text has none", x.ring(0), NONE);
    }

    private static void ringIs(String text, String names) {
        ViewRounds x = new ViewRounds();
        same("parse of " + text, Check.parse(x, text), -16);
        same("place", x.place(), text.length());
        for (int i = 0; i < 9; i++) {
            same("ring(" + i + ") of " + text, x.ring(i), i < names.length() ? names.charAt(i) : NONE);
        }
        same("ring(-1)", x.ring(-1), NONE);
        same("ring(LOW)", x.ring(LOW), NONE);
        same("ring(HIGH)", x.ring(HIGH), NONE);
        same("parse", Check.parse(x, "a("), -11);
        same("ring of the latest", x.ring(0), NONE);
    }

    private static void promise6() {
        promise(6, "relation", "int relation(int name)");
        says("The relation of a name (a .. z); NONE.");
        ViewRounds x = made("z(A):-a(A),~m(A).");
        same("z", x.relation('z'), 0);
        same("a", x.relation('a'), 1);
        same("m", x.relation('m'), 2);
        int[] none = {'b', 'A', 0, -1, 'a' - 1, 'z' + 1, 'a' + 256, LOW, HIGH};
        for (int name : none) {
            same("relation(" + name + ")", x.relation(name), NONE);
        }
        ViewRounds all = made("h(X):-g(X),f(X),e(X). d(X):-c(X),b(X),a(X).");
        for (int name = 'a'; name <= 'z'; name++) {
            same("relation(" + name + ")", all.relation(name), name <= 'h' ? 'h' - name : NONE);
        }
        says("STATE.");
        states(y -> y.relation('p'), y -> y.relation('?'));
    }

    private static void promise7() {
        promise(7, "of", "int of(int relation, int what)");
        says("Of a relation: what = 0 whether it is a VIEW (1, 0), 1 how many TERMS, 2 its LAYER, 3 how many ROWS,"
            + " 4 whether it lies on a ring (through rules).");
        ViewRounds x = made(PATHS);
        add(x, 1, 1, 2, 0);
        add(x, 1, 1, 2, 0);
        add(x, 1, 2, 3, 0);
        add(x, 3, 7, 0, 0);
        same("batch", x.batch(), 6);
        int[][] due = {{1, 2, 1, 3, 1}, {0, 2, 0, 2, 0}, {1, 1, 2, 1, 0}, {0, 1, 0, 1, 0}, {1, 2, 2, 2, 0}};
        for (int relation = 0; relation < 5; relation++) {
            for (int what = 0; what < 5; what++) {
                same("of(" + relation + ", " + what + ")", x.of(relation, what), due[relation][what]);
            }
        }
        layers("a(X):-b(X),~c(X). c(X):-d(X),~e(X). e(X):-g(X),~f(X). f(1). h(X):-a(X). a(X):-h(X).", "abcdefgh", 4, 0, 3, 0, 2, 1, 0, 4);
        layers("a(#):-b(X),~c(X). b(1). c(#):-d(X). d(2). e(X):-a(X).", "abcde", 3, 1, 2, 1, 3);
        layers("a(X):-t(X). b(X):-a(X). c(X):-b(X),X<5. d(#):-t(X).", "atbcd", 1, 0, 1, 1, 1);
        ViewRounds rings = made("a(X):-b(X). b(X):-c(X). c(X):-a(X). d(X):-a(X). c(X):-t(X).");
        for (int i = 0; i < 5; i++) {
            same("ring at " + i, rings.of(i, 4), i < 3 ? 1 : 0);
        }
        ViewRounds three = made("w(Z,Y,X):-t(X,Y,Z).");
        same("three terms", three.of(0, 1), 3);
        same("three terms", three.of(1, 1), 3);
        says("STATE; BAD.");
        states(y -> y.of(0, 0), y -> y.of(-1, 9));
        int[][] bad = {{-1, 0}, {5, 0}, {8, 0}, {LOW, 0}, {HIGH, 0}, {0, -1}, {0, 5}, {0, LOW}, {0, HIGH}};
        for (int[] pair : bad) {
            same("of(" + pair[0] + ", " + pair[1] + ")", x.of(pair[0], pair[1]), BAD);
        }
    }

    private static void layers(String text, String names, int... due) {
        ViewRounds x = made(text);
        for (int i = 0; i < due.length; i++) {
            same("layer of " + names.charAt(i) + " in " + text, x.of(x.relation(names.charAt(i)), 2), due[i]);
        }
    }

    private static void promise8() {
        promise(8, "change", "int change(int table, int a, int b, int c, int sign)");
        says("A change of a TABLE comes to the BATCH: sign 1 or -1; values beyond its TERMS are not looked at: how many are in it.");
        ViewRounds y = made("a(X):-b(X,Y,Z),t(X).");
        same("one more", y.change(1, 3, 4, 5, 1), 1);
        same("one more, values beyond", y.change(2, 3, -1, 1000, 1), 2);
        same("one less, values beyond", y.change(2, 4, LOW, HIGH, -1), 3);
        same("one more of that", y.change(2, 4, 0, 0, 1), 4);
        same("nothing is changed yet", y.of(2, 3), 0);
        same("batch", y.batch(), 1);
        same("b(3, 4, 5)", y.has(1, 3, 4, 5), 1);
        same("t(3)", y.has(2, 3, 0, 0), 1);
        same("t(4)", y.has(2, 4, 0, 0), 0);
        same("one less", y.change(1, 3, 4, 5, -1), 1);
        same("batch", y.batch(), 1);
        same("b(3, 4, 5)", y.has(1, 3, 4, 5), 0);
        says("STATE; BAD (no TABLE, sign, a value not 0 .. 999); FULL: there are 60.");
        states(z -> z.change(1, 1, 2, 0, 1), z -> z.change(-1, -1, -1, -1, 7));
        ViewRounds x = made("a(X):-b(X,Y,Z),t(X).");
        int[][] bad = {{0, 1, 0, 0, 1}, {-1, 1, 0, 0, 1}, {3, 1, 0, 0, 1}, {LOW, 0, 0, 0, 1}, {HIGH, 0, 0, 0, 1}, {1, 0, 0, 0, 0},
            {1, 0, 0, 0, 2}, {1, 0, 0, 0, -2}, {1, 0, 0, 0, LOW}, {1, -1, 0, 0, 1}, {1, 1000, 0, 0, 1}, {1, 0, -1, 0, 1}, {1, 0, 1000, 0, 1},
            {1, 0, 0, -1, 1}, {1, 0, 0, 1000, 1}, {2, -1, 0, 0, 1}, {1, HIGH, 0, 0, 1}, {1, 0, LOW, 0, 1}};
        for (int[] call : bad) {
            same("a bad change", x.change(call[0], call[1], call[2], call[3], call[4]), BAD);
        }
        same("nothing has come", x.told(2), 0);
        same("values beyond", x.change(2, 999, -1, 1000, 1), 1);
        same("a row as less", x.change(1, 0, 999, 0, -1), 2);
        for (int i = 3; i <= 60; i++) {
            same("change " + i, x.change(2, i, 0, 0, 1), i);
        }
        same("change 61", x.change(2, 1, 0, 0, 1), FULL);
        same("BAD comes before FULL", x.change(2, 1000, 0, 0, 1), BAD);
        same("changes", x.told(2), 60);
    }

    private static void promise9() {
        promise(9, "batch", "int batch()");
        says("The BATCH, with changes or without, is done (it is empty then): how many DIFFERENCES.");
        batchesOfViews();
        ViewRounds x = made("a(X):-b(X).");
        same("a batch without changes", x.batch(), 0);
        same("it was done", x.told(4), 1);
        says("STATE; BAD: a COUNT would be below 0, or above 9; FULL: a TABLE or a VIEW would be.");
        states(ViewRounds::batch, ViewRounds::batch);
        for (int i = 0; i < 9; i++) {
            add(x, 1, 5, 0, 0);
        }
        same("nine of a row", x.batch(), 1);
        same("count", x.has(1, 5, 0, 0), 9);
        add(x, 1, 5, 0, 0);
        add(x, 1, 6, 0, 0);
        same("ten of a row", x.batch(), BAD);
        same("the batch is empty", x.told(2), 0);
        same("nothing has changed", x.has(1, 6, 0, 0), 0);
        same("nor the latest differences", x.told(3), 1);
        same("nor what can be taken back", x.told(4), 2);
        add(x, 1, 5, 0, 0);
        x.change(1, 5, 0, 0, -1);
        x.change(1, 6, 0, 0, -1);
        add(x, 1, 6, 0, 0);
        same("sums count, in any order", x.batch(), 0);
        x.change(1, 7, 0, 0, -1);
        same("below nothing", x.batch(), BAD);
        batchesThatAreFull();
        says("With BAD and FULL it is empty, too.");
        ViewRounds y = made("a(X):-b(X).");
        add(y, 1, 1, 0, 0);
        y.change(1, 7, 0, 0, -1);
        same("below nothing", y.batch(), BAD);
        same("changes", y.told(2), 0);
        same("nothing to drop", y.drop(), 0);
        same("nothing is left of it", y.batch(), 0);
        rows(y, 1);
        for (int i = 0; i < 41; i++) {
            add(y, 1, i, 0, 0);
        }
        same("too many rows", y.batch(), FULL);
        same("changes", y.told(2), 0);
        same("nothing to drop", y.drop(), 0);
        same("nothing is left of it", y.batch(), 0);
        rows(y, 1);
        same("the first change of another one", y.change(1, 5, 0, 0, 1), 1);
        same("batch", y.batch(), 1);
        rows(y, 1, 5);
    }

    private static void batchesThatAreFull() {
        ViewRounds x = made("a(1):-b(X),X<0.");
        for (int i = 0; i < 40; i++) {
            add(x, 1, i, 0, 0);
        }
        same("forty rows", x.batch(), 0);
        add(x, 1, 40, 0, 0);
        same("a table would be full", x.batch(), FULL);
        same("the batch is empty", x.told(2), 0);
        same("rows", x.of(1, 3), 40);
        add(x, 1, 41, 0, 0);
        x.change(1, 50, 0, 0, -1);
        same("BAD comes before FULL", x.batch(), BAD);
        for (int i = 0; i < 30; i++) {
            add(x, 1, 100 + i, 0, 0);
        }
        for (int i = 0; i < 30; i++) {
            x.change(1, i, 0, 0, -1);
        }
        same("sixty changes that fit together", x.batch(), 0);
        same("rows", x.of(1, 3), 40);
        same("first row", x.row(1, 0, 0), 30);
        ViewRounds pairs = made("p(X,Y):-v(X),v(Y). n(#):-w(X),w(Y),w(Z).");
        for (int i = 0; i < 6; i++) {
            add(pairs, 1, i, 0, 0);
        }
        same("36 pairs", pairs.batch(), 36);
        add(pairs, 1, 6, 0, 0);
        same("49 pairs", pairs.batch(), FULL);
        for (int i = 0; i < 9; i++) {
            add(pairs, 3, i, 0, 0);
        }
        same("729 triples", pairs.batch(), 1);
        same("number", pairs.row(2, 0, 0), 729);
        add(pairs, 3, 9, 0, 0);
        same("1000 triples", pairs.batch(), FULL);
        same("all is as it was", pairs.row(2, 0, 0), 729);
        CHECK.holds("anew", pairs.anew());
        ViewRounds products = made("n(#):-v(X),w(Y).");
        for (int i = 0; i < 27; i++) {
            add(products, 1, i, 0, 0);
        }
        for (int i = 0; i < 37; i++) {
            add(products, 2, i, 0, 0);
            if (i == 30) {
                products.batch();
            }
        }
        same("27 by 37", products.batch(), 2);
        same("number", products.row(0, 0, 0), 999);
        products.change(1, 0, 0, 0, -1);
        products.change(1, 1, 0, 0, -1);
        for (int i = 37; i < 40; i++) {
            add(products, 2, i, 0, 0);
        }
        same("25 by 40", products.batch(), FULL);
        same("number", products.row(0, 0, 0), 999);
    }

    private static void batchesOfViews() {
        // rows that hold one another up around do not stay
        ViewRounds x = made("o(X):-q(X). q(X):-o(X). q(X):-v(X),~z(X).");
        add(x, 2, 4, 0, 0);
        same("both come", x.batch(), 2);
        add(x, 3, 4, 0, 0);
        same("both go", x.batch(), 2);
        rows(x, 0);
        // numbers of values of all variables, not of rows of the head
        ViewRounds counts = made("n(X,#):-e(X,Y),e(Z,Y),~f(Z). m(#):-e(1,Y). k(7,X,#):-e(X,Y).");
        add(counts, 1, 1, 5, 0);
        add(counts, 1, 2, 5, 0);
        add(counts, 1, 2, 6, 0);
        same("rows come", counts.batch(), 5);
        same("n(1, 2)", counts.has(0, 1, 2, 0), 1);
        same("n(2, 3)", counts.has(0, 2, 3, 0), 1);
        same("m(1)", counts.has(3, 1, 0, 0), 1);
        same("k(7, 2, 2)", counts.has(4, 7, 2, 2), 1);
        add(counts, 2, 2, 0, 0);
        same("a number goes and another comes", counts.batch(), 4);
        isDifference(counts, 0, 0, 1, 1, 0, 1);
        isDifference(counts, 1, 0, 1, 2, 0, -1);
        isDifference(counts, 2, 0, 2, 1, 0, 1);
        isDifference(counts, 3, 0, 2, 3, 0, -1);
        ViewRounds tests = made("a(X):-v(X),X<5. b(X):-v(X),5=X. c(X):-v(X),X!5. d(1):-~v(9). e(1):-3<2. f(1):-2<3.");
        for (int i = 4; i <= 6; i++) {
            add(tests, 1, i, 0, 0);
        }
        same("rows come", tests.batch(), 4);
        rows(tests, tests.relation('a'), 4);
        rows(tests, tests.relation('b'), 5);
        rows(tests, tests.relation('c'), 4, 6);
        rows(tests, tests.relation('d'), 1);
        rows(tests, tests.relation('e'));
        rows(tests, tests.relation('f'), 1);
        ViewRounds alike = made("s(X):-w(X,Y,X). r(Y,X):-w(X,Y,3),w(Y,X,Z).");
        add(alike, 1, 1, 2, 1);
        add(alike, 1, 1, 2, 3);
        add(alike, 1, 2, 1, 9);
        same("rows come", alike.batch(), 2);
        same("s(1)", alike.has(0, 1, 0, 0), 1);
        same("r(2, 1)", alike.has(2, 2, 1, 0), 1);
        testsBeforeTheirRows();
        viewsThroughThemselves();
        viewsOfNumbers();
    }

    private static void testsBeforeTheirRows() {
        ViewRounds x = made("a(A):-A<5,~c(A),b(A). d(A):-A!B,b(B),~c(B),b(A),A<B.");
        add(x, 2, 3, 0, 0);
        add(x, 2, 4, 0, 0);
        add(x, 2, 7, 0, 0);
        add(x, 1, 4, 0, 0);
        same("rows come", x.batch(), 3);
        rows(x, 0, 3);
        rows(x, 3, 3, 4);
    }

    private static void viewsThroughThemselves() {
        String[] steps = {"p(A,B),e(B,Z)", "e(A,B),p(B,Z)", "p(A,B),p(B,Z)", "p(B,Z),p(A,B)", "A<99,e(A,B),p(B,Z),~f(A)", "e(A,B),B!99,p(C,Z),C=B"};
        for (String step : steps) {
            ViewRounds x = made("p(A,Z):-e(A,Z). p(A,Z):-" + step + ".");
            int[][] edges = {{9, 1}, {1, 2}, {2, 3}, {3, 4}, {5, 5}};
            for (int[] edge : edges) {
                add(x, 1, edge[0], edge[1], 0);
            }
            same("rows come by " + step, x.batch(), 11);
            rows(x, 0, 1, 1, 1, 2, 2, 3, 5, 9, 9, 9, 9);
            int[] seconds = {2, 3, 4, 3, 4, 4, 5, 1, 2, 3, 4};
            for (int i = 0; i < seconds.length; i++) {
                same("second value of row " + i + " by " + step, x.row(0, i, 1), seconds[i]);
            }
            x.change(1, 2, 3, 0, -1);
            same("rows go by " + step, x.batch(), 6);
            rows(x, 0, 1, 3, 5, 9, 9);
        }
    }

    private static void viewsOfNumbers() {
        ViewRounds x = made("n(X,#):-e(X,Y). k(Z,X):-n(X,Z). m(X):-k(X,Y). o(#):-k(X,Y).");
        int[] groups = {1, 2, 3, 2, 1, 0, 2, 0, 3, 1};
        int standing = 0;
        for (int count : groups) {
            for (int i = standing; i < count; i++) {
                for (int j = 0; j <= i; j++) {
                    add(x, 1, 10 + i, j, 0);
                }
            }
            for (int i = count; i < standing; i++) {
                for (int j = 0; j <= i; j++) {
                    x.change(1, 10 + i, j, 0, -1);
                }
            }
            standing = count;
            CHECK.holds("batch", x.batch() > 0);
            int[] firsts = new int[count];
            int[] numbers = new int[count];
            for (int i = 0; i < count; i++) {
                firsts[i] = 10 + i;
                numbers[i] = 1 + i;
                same("k of number " + (1 + i), x.has(2, 1 + i, 10 + i, 0), 1);
            }
            rows(x, 0, firsts);
            rows(x, 2, numbers);
            rows(x, 3, numbers);
            same("how many numbers", x.has(4, count, 0, 0), count > 0 ? 1 : 0);
        }
    }

    private static void promise10() {
        promise(10, "drop", "int drop()");
        says("The BATCH is empty: how many changes it had.");
        ViewRounds x = made("a(X):-b(X).");
        same("nothing to drop", x.drop(), 0);
        add(x, 1, 1, 0, 0);
        add(x, 1, 2, 0, 0);
        same("two dropped", x.drop(), 2);
        same("the batch is empty", x.told(2), 0);
        same("it changes nothing", x.batch(), 0);
        rows(x, 0);
        for (int i = 0; i < 60; i++) {
            add(x, 1, i, 0, 0);
        }
        same("sixty dropped", x.drop(), 60);
        same("there is room again", x.change(1, 1, 0, 0, 1), 1);
        says("STATE.");
        states(ViewRounds::drop, ViewRounds::drop);
    }

    private static void promise11() {
        promise(11, "difference", "int difference(int k, int what)");
        says("Of DIFFERENCE k of the latest BATCH that was done, or taken back: what = 0 the relation,"
            + " 1, 2, 3 its values (0 beyond its TERMS), 4 the sign.");
        ViewRounds x = made("b(Y,X):-t(X,Y),X<Y. a(X,Y,Z):-t(X,Y),t(Y,Z). s(X):-t(X,X).");
        same("none yet", x.difference(0, 0), NONE);
        add(x, 1, 7, 8, 0);
        add(x, 1, 8, 8, 0);
        same("batch", x.batch(), 4);
        isDifference(x, 0, 0, 8, 7, 0, 1);
        isDifference(x, 1, 2, 7, 8, 8, 1);
        isDifference(x, 2, 2, 8, 8, 8, 1);
        isDifference(x, 3, 3, 8, 0, 0, 1);
        differencesOfLaterBatches(x);
        says("STATE; BAD (what); NONE.");
        states(y -> y.difference(0, 0), y -> y.difference(-1, 9));
        int[] none = {-1, 5, LOW, HIGH, 640};
        for (int k : none) {
            same("difference(" + k + ", 0)", x.difference(k, 0), NONE);
            same("BAD comes before NONE", x.difference(k, 5), BAD);
        }
        int[] bad = {-1, 5, LOW, HIGH};
        for (int what : bad) {
            same("difference(0, " + what + ")", x.difference(0, what), BAD);
        }
        same("none of a new one", made("a(1).").difference(0, 0), NONE);
    }

    private static void differencesOfLaterBatches(ViewRounds x) {
        add(x, 1, 8, 9, 0);
        x.change(1, 8, 8, 0, -1);
        same("batch", x.batch(), 5);
        isDifference(x, 0, 0, 9, 8, 0, 1);
        isDifference(x, 1, 2, 7, 8, 8, -1);
        isDifference(x, 2, 2, 7, 8, 9, 1);
        isDifference(x, 3, 2, 8, 8, 8, -1);
        isDifference(x, 4, 3, 8, 0, 0, -1);
        x.change(1, 1, 1, 0, -1);
        same("a bad batch", x.batch(), BAD);
        isDifference(x, 4, 3, 8, 0, 0, -1);
        same("undo", x.undo(), 5);
        isDifference(x, 0, 0, 9, 8, 0, -1);
        isDifference(x, 1, 2, 7, 8, 8, 1);
        isDifference(x, 4, 3, 8, 0, 0, 1);
    }

    private static void promise12() {
        promise(12, "undo", "int undo()");
        says("The latest BATCH that was done is taken back (up to six, the latest first): how many DIFFERENCES that makes.");
        takenBack();
        says("The BATCH under way stays.");
        ViewRounds x = made("a(X):-b(X).");
        add(x, 1, 1, 0, 0);
        same("batch", x.batch(), 1);
        add(x, 1, 2, 0, 0);
        x.change(1, 1, 0, 0, -1);
        same("undo", x.undo(), 1);
        same("changes", x.told(2), 2);
        same("its sums are wrong now", x.batch(), BAD);
        add(x, 1, 1, 0, 0);
        same("batch", x.batch(), 1);
        add(x, 1, 2, 0, 0);
        same("undo", x.undo(), 1);
        same("the batch that stayed", x.batch(), 1);
        rows(x, 0, 2);
        says("STATE; NONE: there is none.");
        states(ViewRounds::undo, ViewRounds::undo);
        ViewRounds none = made("a(X):-b(X).");
        same("none was done", none.undo(), NONE);
        none.change(1, 1, 0, 0, -1);
        same("a refused one", none.batch(), BAD);
        same("is none", none.undo(), NONE);
        same("one without changes", none.batch(), 0);
        same("is one", none.undo(), 0);
        same("and none then", none.undo(), NONE);
    }

    private static void takenBack() {
        ViewRounds x = made("a(X):-b(X).");
        for (int i = 0; i < 8; i++) {
            add(x, 1, i, 0, 0);
            add(x, 1, 50, 0, 0);
            same("batch " + i, x.batch(), i == 0 ? 2 : 1);
            same("can be taken back", x.told(4), Math.min(6, i + 1));
        }
        add(x, 1, 99, 0, 0);
        for (int i = 7; i >= 2; i--) {
            same("undo " + i, x.undo(), 1);
            isDifference(x, 0, 0, i, 0, 0, -1);
            same("count", x.has(1, 50, 0, 0), i);
            same("can be taken back", x.told(4), i - 2);
            CHECK.holds("anew", x.anew());
        }
        same("no seventh", x.undo(), NONE);
        isDifference(x, 0, 0, 2, 0, 0, -1);
        rows(x, 0, 0, 1, 50);
        same("the batch under way stays", x.told(2), 1);
        same("batch", x.batch(), 1);
        same("undo", x.undo(), 1);
        same("undo", x.undo(), NONE);
        for (int i = 0; i < 40; i++) {
            add(x, 1, i < 3 ? i : 900 + i, 0, 0);
        }
        for (int i = 0; i < 3; i++) {
            x.change(1, i, 0, 0, -1);
        }
        same("many at once", x.batch(), 37);
        for (int i = 3; i < 40; i++) {
            x.change(1, 900 + i, 0, 0, -1);
        }
        same("and away", x.batch(), 37);
        same("and back", x.undo(), 37);
        same("and away", x.undo(), 37);
    }

    private static void promise13() {
        promise(13, "has", "int has(int relation, int a, int b, int c)");
        says("The COUNT of a ROW of a TABLE (0: it is not there); of a VIEW 1, 0.");
        ViewRounds y = made("a(X):-b(X). a(X):-b(X),b(X).");
        for (int count = 1; count <= 9; count++) {
            add(y, 1, 4, 0, 0);
            y.batch();
            same("the count", y.has(1, 4, 0, 0), count);
            same("of the view", y.has(0, 4, 0, 0), 1);
        }
        same("not there", y.has(1, 5, 0, 0), 0);
        same("not there", y.has(0, 5, 0, 0), 0);
        says("Values beyond its TERMS are not looked at, here and below.");
        ViewRounds x = made(PATHS);
        add(x, 1, 1, 2, 0);
        add(x, 1, 1, 2, 77);
        add(x, 3, 999, 0, 0);
        add(x, 3, 0, 0, 0);
        same("batch", x.batch(), 4);
        same("e(1, 2)", x.has(1, 1, 2, -5), 2);
        same("e(2, 1)", x.has(1, 2, 1, 0), 0);
        same("p(1, 2)", x.has(0, 1, 2, 1000), 1);
        same("p(2, 2)", x.has(0, 2, 2, 0), 0);
        same("v(999)", x.has(3, 999, -1, LOW), 1);
        same("v(0)", x.has(3, 0, 1000, HIGH), 1);
        same("n(1, 1)", x.has(4, 1, 1, 0), 1);
        same("derivations of p(1, 2)", x.derivations(0, 1, 2, LOW), 1);
        same("derivations of n(1, 1)", x.derivations(4, 1, 1, 1000), 1);
        same("derivations of u(0)", x.derivations(2, 0, -1, 1000), 1);
        same("why of p(1, 2)", x.why(0, 1, 2, HIGH, 2), 1);
        same("why of u(999)", x.why(2, 999, 1000, -1, 2), 999);
        says("STATE; BAD (relation, value).");
        states(z -> z.has(0, 1, 2, 0), z -> z.has(-1, -1, 0, 0));
        int[][] bad = {{-1, 0, 0, 0}, {5, 0, 0, 0}, {LOW, 0, 0, 0}, {HIGH, 0, 0, 0}, {0, -1, 0, 0}, {0, 1000, 0, 0}, {0, 0, -1, 0},
            {1, 0, 1000, 0}, {3, -1, 0, 0}, {3, HIGH, 0, 0}};
        for (int[] call : bad) {
            same("a bad has", x.has(call[0], call[1], call[2], call[3]), BAD);
        }
        ViewRounds three = made("w(1,2,3).");
        same("w(1, 2, 3)", three.has(0, 1, 2, 3), 1);
        same("w(1, 2, 4)", three.has(0, 1, 2, 4), 0);
        same("a third value outside", three.has(0, 1, 2, 1000), BAD);
        same("a third value outside", three.has(0, 1, 2, -1), BAD);
    }

    private static void promise14() {
        promise(14, "row", "int row(int relation, int k, int what)");
        says("Of the k-th ROW of a relation, rising: what = 0, 1, 2 its values, 3 its COUNT (of a VIEW 1).");
        ViewRounds x = made("a(X,Y,Z):-t(X,Y,Z).");
        int[][] due = {{0, 0, 0, 1}, {0, 0, 1, 1}, {0, 1, 0, 2}, {0, 999, 999, 1}, {1, 0, 0, 1}, {10, 2, 3, 1}, {999, 999, 999, 1}};
        for (int i = due.length - 1; i >= 0; i--) {
            add(x, 1, due[i][0], due[i][1], due[i][2]);
        }
        add(x, 1, 0, 1, 0);
        same("batch", x.batch(), due.length);
        for (int k = 0; k < due.length; k++) {
            for (int what = 0; what < 4; what++) {
                same("row(1, " + k + ", " + what + ")", x.row(1, k, what), due[k][what]);
                same("row(0, " + k + ", " + what + ")", x.row(0, k, what), what == 3 ? 1 : due[k][what]);
            }
        }
        ViewRounds often = made("a(X):-t(X,Y). a(X):-t(X,Y),t(X,Z). a(X):-a(X).");
        add(often, 1, 4, 1, 0);
        add(often, 1, 4, 1, 0);
        add(often, 1, 4, 2, 0);
        same("batch", often.batch(), 1);
        same("derivations", often.derivations(0, 4, 0, 0), 7);
        same("the count of a row of a view", often.row(0, 0, 3), 1);
        same("has of a row of a view", often.has(0, 4, 0, 0), 1);
        same("the count of a row of a table", often.row(1, 0, 3), 2);
        ViewRounds small = made("a(5).");
        same("its value", small.row(0, 0, 0), 5);
        same("a value beyond its terms", small.row(0, 0, 1), 0);
        same("a value beyond its terms", small.row(0, 0, 2), 0);
        says("STATE; BAD (relation, what); NONE.");
        states(y -> y.row(0, 0, 0), y -> y.row(-1, -1, -1));
        int[] none = {-1, 7, 40, 100, LOW, HIGH};
        for (int k : none) {
            same("row(1, " + k + ", 0)", x.row(1, k, 0), NONE);
            same("BAD comes before NONE", x.row(1, k, 4), BAD);
            same("BAD comes before NONE", x.row(2, k, 0), BAD);
        }
        int[] bad = {-1, 4, LOW, HIGH};
        for (int outside : bad) {
            same("row(1, 0, " + outside + ")", x.row(1, 0, outside), BAD);
            same("row(" + outside + ", 0, 0)", x.row(outside, 0, 0), BAD);
        }
    }

    private static void promise15() {
        promise(15, "derivations", "int derivations(int view, int a, int b, int c)");
        says("How many DERIVATIONS a ROW of a VIEW has, as all is now (with # : that number, if the ROW is there).");
        ViewRounds x = made("a(X):-t(X,Y). a(X):-t(X,Y),t(X,Z),Y<Z. a(3). n(X,#):-t(X,Y). a(X):-a(X).");
        for (int i = 0; i < 4; i++) {
            add(x, 1, 3, i, 0);
        }
        add(x, 1, 5, 5, 0);
        add(x, 1, 5, 5, 0);
        same("batch", x.batch(), 3);
        same("a(3)", x.derivations(0, 3, -1, 1000), 4 + 6 + 1 + 1);
        same("a(5)", x.derivations(0, 5, 0, 0), 2);
        same("a(4)", x.derivations(0, 4, 0, 0), 0);
        same("n(3, 4)", x.derivations(2, 3, 4, -1), 4);
        same("n(3, 3)", x.derivations(2, 3, 3, 0), 0);
        same("n(4, 4)", x.derivations(2, 4, 4, 0), 0);
        ViewRounds zero = made("a(0). n(X,#):-a(X).");
        same("a(0)", zero.derivations(0, 0, 0, 0), 1);
        same("why of a(0)", zero.why(0, 0, 0, 0, 0), 0);
        same("n(0, 0)", zero.derivations(1, 0, 0, 0), 0);
        same("n(0, 1)", zero.derivations(1, 0, 1, 0), 1);
        ViewRounds several = made("n(7,#):-t(X). m(8,#):-t(X),t(Y). k(9,#):-t(X),t(Y),t(Z).");
        add(several, 1, 1, 0, 0);
        add(several, 1, 2, 0, 0);
        same("batch", several.batch(), 3);
        int[] numbers = {2, 0, 4, 8};
        for (int view = 0; view < numbers.length; view++) {
            int first = view == 0 ? 7 : 6 + view;
            same("number of " + view, several.derivations(view, first, numbers[view], 0), view == 1 ? BAD : numbers[view]);
            same("no such number of " + view, several.derivations(view, first, 3, 0), view == 1 ? BAD : 0);
            same("why of " + view, several.why(view, first, numbers[view], 0, 0), BAD);
        }
        ViewRounds many = made("a(1):-t(X),t(Y),t(Z).");
        for (int i = 0; i < 40; i++) {
            add(many, 1, i, 0, 0);
        }
        same("batch", many.batch(), 1);
        same("all triples", many.derivations(0, 1, 0, 0), 64000);
        add(x, 1, 3, 4, 0);
        same("a change that is not done", x.derivations(0, 3, 0, 0), 12);
        same("batch", x.batch(), 2);
        same("as all is now", x.derivations(0, 3, 0, 0), 5 + 10 + 1 + 1);
        same("as all is now", x.derivations(2, 3, 5, 0), 5);
        same("and no more", x.derivations(2, 3, 4, 0), 0);
        same("undo", x.undo(), 2);
        same("as all is now", x.derivations(0, 3, 0, 0), 12);
        says("STATE; BAD (no VIEW, value).");
        states(y -> y.derivations(0, 1, 2, 0), y -> y.derivations(-1, -1, 0, 0));
        int[][] bad = {{1, 3, 0, 0}, {-1, 3, 0, 0}, {3, 3, 0, 0}, {LOW, 0, 0, 0}, {HIGH, 0, 0, 0}, {0, -1, 0, 0}, {0, 1000, 0, 0}, {2, 3, 1000, 0}};
        for (int[] call : bad) {
            same("bad derivations", x.derivations(call[0], call[1], call[2], call[3]), BAD);
        }
    }

    private static void promise16() {
        promise(16, "why", "int why(int view, int a, int b, int c, int what)");
        says("Of the least DERIVATION of a ROW of a VIEW without # (the rule first, then the values, variables from A on):"
            + " what = 0 its rule (from 0), 1 how many variables it has, 2 + i the value of the i-th of these from A on.");
        ViewRounds x = made("a(X):-t(X,Z),t(C,Z),C!X. a(X):-t(X,Y). n(#):-t(X,Y). a(8):-~t(1,1). b(Z,A):-t(A,Z),t(Z,Q).");
        add(x, 1, 5, 7, 0);
        add(x, 1, 6, 7, 0);
        add(x, 1, 9, 7, 0);
        add(x, 1, 5, 9, 0);
        add(x, 1, 4, 9, 0);
        add(x, 1, 3, 3, 0);
        x.batch();
        // of a(5) by rule 0, with C, X, Z: 4, 5, 9 and 6, 5, 7 and 9, 5, 7
        whyIs(x, 0, 5, 0, 0, 3, 4, 5, 9);
        whyIs(x, 0, 6, 0, 0, 3, 5, 6, 7);
        whyIs(x, 0, 3, 0, 1, 2, 3, 3);
        whyIs(x, 0, 8, 0, 3, 0);
        whyIs(x, 3, 9, 4, 4, 3, 4, 7, 9);
        whyIs(x, 0, 7, 0);
        ViewRounds six = made("a(F):-t(A,B,C),t(D,E,F).");
        add(six, 1, 1, 2, 3);
        add(six, 1, 4, 5, 6);
        six.batch();
        whyIs(six, 0, 6, 0, 0, 6, 1, 2, 3, 4, 5, 6);
        leastOfSeveral();
        says("STATE; BAD (no VIEW, one with #, value, what below 0 or above 7); NONE: there is no DERIVATION, no such variable.");
        states(y -> y.why(0, 1, 2, 0, 0), y -> y.why(-1, -1, 0, 0, -1));
        int[] views = {1, 2, 4, -1, LOW, HIGH};
        for (int view : views) {
            same("why of " + view, x.why(view, 6, 0, 0, 0), BAD);
        }
        int[] bad = {-1, 8, LOW, HIGH};
        for (int what : bad) {
            same("why what " + what, x.why(0, 6, 0, 0, what), BAD);
            same("BAD comes before NONE", x.why(0, 7, 0, 0, what), BAD);
        }
        same("a value outside", x.why(0, 1000, 0, 0, 0), BAD);
        same("a value outside", x.why(3, 0, -1, 0, 0), BAD);
        same("a value beyond", x.why(0, 6, -1, 1000, 0), 0);
    }

    private static void leastOfSeveral() {
        ViewRounds x = made("a(1):-t(C,B,A). b(1):-t(A,B,C). c(1):-t(B,C,A).");
        int[][] all = {{1, 9, 5}, {2, 8, 5}, {3, 8, 5}, {4, 7, 6}, {5, 0, 6}};
        for (int[] row : all) {
            add(x, 1, row[0], row[1], row[2]);
        }
        x.batch();
        whyIs(x, 0, 1, 0, 0, 3, 5, 8, 2);
        whyIs(x, 2, 1, 0, 1, 3, 1, 9, 5);
        whyIs(x, 3, 1, 0, 2, 3, 5, 1, 9);
        x.change(1, 1, 9, 5, -1);
        x.change(1, 2, 8, 5, -1);
        x.batch();
        whyIs(x, 0, 1, 0, 0, 3, 5, 8, 3);
        whyIs(x, 2, 1, 0, 1, 3, 3, 8, 5);
    }

    private static void whyIs(ViewRounds x, int view, int a, int b, int... due) {
        for (int what = 0; what < 8; what++) {
            String call = "why(" + view + ", " + a + ", " + b + ", 0, " + what + ")";
            same(call, x.why(view, a, b, 0, what), what < due.length ? due[what] : NONE);
        }
    }

    private static void promise17() {
        promise(17, "anew", "boolean anew()");
        says("THE THEOREM: whether VIEWS are as they are worked from nothing.");
        ViewRounds x = made(PATHS);
        CHECK.holds("anew with nothing", x.anew());
        for (int i = 0; i < 6; i++) {
            add(x, 1, i, (i + 1) % 6, 0);
            add(x, 3, i, 0, 0);
            x.batch();
            CHECK.holds("anew after a batch", x.anew());
        }
        x.change(1, 0, 1, 0, -1);
        x.batch();
        CHECK.holds("anew after a row went", x.anew());
        same("paths", x.of(0, 3), 15);
        x.undo();
        CHECK.holds("anew after undo", x.anew());
        same("paths", x.of(0, 3), 36);
        add(x, 1, 0, 5, 0);
        CHECK.holds("anew with a batch under way", x.anew());
        same("it changes nothing", x.of(0, 3), 36);
        same("nor the batch", x.told(2), 1);
        same("nor the differences", x.told(3), 33);
        says("STATE: false.");
        for (ViewRounds none : withoutRules()) {
            CHECK.holds("not without rules", !none.anew());
        }
    }

    private static void promise18() {
        promise(18, "told", "int told(int what)");
        says("What = 0 rules, 1 relations, 2 changes in the BATCH, 3 DIFFERENCES of the latest, 4 BATCHES that can be taken back,"
            + " 5 the greatest LAYER.");
        ViewRounds x = made(PATHS);
        toldIs(x, 4, 5, 0, 0, 0, 2);
        add(x, 1, 1, 2, 0);
        toldIs(x, 4, 5, 1, 0, 0, 2);
        x.batch();
        toldIs(x, 4, 5, 0, 2, 1, 2);
        add(x, 3, 7, 0, 0);
        x.batch();
        toldIs(x, 4, 5, 0, 1, 2, 2);
        x.undo();
        x.undo();
        toldIs(x, 4, 5, 0, 2, 0, 2);
        Check.parse(x, "a(1).");
        toldIs(x, 1, 1, 0, 0, 0, 1);
        says("(All 0 without rules.)");
        for (ViewRounds none : withoutRules()) {
            toldIs(none, 0, 0, 0, 0, 0, 0);
        }
        says("BAD.");
        toldOutside(x);
    }

    private static void toldIs(ViewRounds x, int... due) {
        for (int what = 0; what < 6; what++) {
            same("told(" + what + ")", x.told(what), due[what]);
        }
        toldOutside(x);
    }

    private static void toldOutside(ViewRounds x) {
        int[] bad = {-1, 6, LOW, HIGH};
        for (int what : bad) {
            same("told(" + what + ")", x.told(what), BAD);
        }
    }

    private static void notPromised() {
        says("## Not promised How the state is held inside the object is free, as are the speed of each call, the text of toString"
            + " and the behaviour of equals and hashCode. Use of one object from several threads at once is not promised to be safe."
            + " Nothing is promised beyond the answers and state changes described above, and nothing about an object after its"
            + " 512th call.");
        document.ends();
    }

    public static void main(String[] args) throws Exception {
        document = new Document(CHECK, "## Promise 1:", "");
        promise1();
        promise2();
        promise3();
        promise4();
        promise5();
        promise6();
        promise7();
        promise8();
        promise9();
        promise10();
        promise11();
        promise12();
        promise13();
        promise14();
        promise15();
        promise16();
        promise17();
        promise18();
        notPromised();
        CHECK.finish();
    }
}
