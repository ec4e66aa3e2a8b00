import java.lang.management.ManagementFactory;

/** What the dearest lives of 512 calls make, against the room that all calls of a run share. */
public final class RoomTest {
    /** 7.3 million fields and elements are 29.2 million bytes, if each is an int; one object takes a small part. */
    private static final long MOST_BYTES = 1_000_000;
    private static final long MOST_NEW_BYTES = 40_000;
    private static final int CALLS = 512;
    private static final String CROSS = "a(X):-t(X),t(Y),t(Z),Z<0.";
    private static final Check CHECK = new Check();

    private static long bytes() {
        return ((com.sun.management.ThreadMXBean) ManagementFactory.getThreadMXBean()).getCurrentThreadAllocatedBytes();
    }

    private interface Life {
        void live();
    }

    private static void measure(String name, long most, Life life) {
        life.live();
        long before = bytes();
        long start = System.nanoTime();
        life.live();
        long millis = (System.nanoTime() - start) / 1_000_000;
        long made = bytes() - before;
        System.out.println(name + ": " + made + " bytes, " + millis + " ms");
        CHECK.holds(name + " stays in its room", made <= most);
    }

    private static void parseOften() {
        ViewRounds x = new ViewRounds();
        for (int i = 0; i < CALLS / 2; i++) {
            x.feed(0x2e2923285a595861L, 8);
            x.parse();
        }
    }

    private static void parseLong() {
        ViewRounds x = new ViewRounds();
        int calls = 0;
        String text = "a(1):-1=1,1=1,1=1,1=1,1=1.".repeat(16);
        while (calls < CALLS) {
            CHECK.same("parse", Check.parse(x, text), 16);
            calls += text.length() / 8 + 1;
        }
    }

    private static void batchOften() {
        ViewRounds x = new ViewRounds();
        CHECK.same("parse", Check.parse(x, "p(X,Y):-e(X,Y). p(X,Y):-p(X,Z),p(Z,Y). n(X,#):-p(X,Y). u(X):-v(X),~p(X,X)."), 4);
        for (int i = 0; i < 6; i++) {
            x.change(1, i, (i + 1) % 6, 0, 1);
            x.change(4, i, 0, 0, 1);
        }
        x.batch();
        for (int i = 0; i < CALLS / 4; i++) {
            x.change(1, 0, 1, 0, i % 2 == 0 ? -1 : 1);
            x.batch();
            x.derivations(0, 3, 4, 0);
            x.why(0, 3, 4, 0, 3);
        }
        CHECK.holds("anew", x.anew());
    }

    /** Sixteen rules, each of which looks at all 64000 triples in vain. */
    private static void searchInVain() {
        ViewRounds x = new ViewRounds();
        CHECK.same("parse", Check.parse(x, CROSS.repeat(16)), 16);
        for (int i = 0; i < 40; i++) {
            x.change(1, i, 0, 0, 1);
        }
        for (int i = 0; i < CALLS / 16; i++) {
            CHECK.same("batch", x.batch(), 0);
        }
    }

    public static void main(String[] args) {
        measure("a new object", MOST_NEW_BYTES, ViewRounds::new);
        measure("short texts", MOST_BYTES, RoomTest::parseOften);
        measure("long texts", MOST_BYTES, RoomTest::parseLong);
        measure("batches", MOST_BYTES, RoomTest::batchOften);
        measure("searches in vain", MOST_BYTES, RoomTest::searchInVain);
        CHECK.finish();
    }
}
