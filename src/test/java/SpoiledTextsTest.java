/** Good texts with one sign more, fewer, or another one, at every place: faults and their places are those of the oracle. */
public final class SpoiledTextsTest {
    private static final String SIGNS = "abzAXZ019#(),.:-~<=!? \n";
    private static final String[] TEXTS = {
        "a(X):-b(X,1),~c(X),X<2.d(12,#):-a(Y),Z=Y,b(Z,Y).a(7).",
        "n(X,Y,#):-p(X,Y),0!X.p(1,2).p(X,Y):-p(Y,X),~q(X).q(3):-1=1.",
    };
    /** What stands behind is wrong, too, so that a reader who goes on behind a fault tells the wrong one. */
    private static final String[] ENDINGS = {"", "c(X).", "?", "a(1,2,3)."};
    private static final Check CHECK = new Check();

    private static void compare(String text) {
        for (String ending : ENDINGS) {
            String whole = text + ending;
            ViewRounds views = new ViewRounds();
            Oracle oracle = new Oracle();
            Check.feed(views, whole);
            for (int i = 0; i < whole.length(); i++) {
                oracle.feed(whole.charAt(i), 1);
            }
            CHECK.same("parse of " + whole, views.parse(), oracle.parse());
            CHECK.same("place of " + whole, views.place(), oracle.place());
            CHECK.same("relations of " + whole, views.told(1), oracle.told(1));
            CHECK.same("ring of " + whole, views.ring(0), oracle.ring(0));
        }
    }

    public static void main(String[] args) {
        for (String text : TEXTS) {
            compare(text);
            for (int at = 0; at <= text.length(); at++) {
                String before = text.substring(0, at);
                String behind = text.substring(at);
                String last = behind.isEmpty() ? "" : behind.substring(1);
                compare(before);
                compare(before + last);
                for (char sign : SIGNS.toCharArray()) {
                    compare(before + sign + behind);
                    compare(before + sign + last);
                }
            }
        }
        CHECK.finish();
    }
}
