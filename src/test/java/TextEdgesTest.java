/**
 * Every sentence of the document that names a boundary of a text: the last text that is taken, the first one
 * that is not, and what a refused text leaves.
 */
public final class TextEdgesTest {
    private static final int NONE = -1, BAD = -2, FULL = -3, STATE = -4;
    private static final int LOW = Integer.MIN_VALUE, HIGH = Integer.MAX_VALUE;
    private static final String EIGHT = "a(X):-b(X),c(X),d(X).e(X):-f(X),g(X),h(X).";
    private static final Check CHECK = new Check();

    private static void says(String words) {
        CHECK.says(words);
    }

    private static void same(String call, long got, long due) {
        CHECK.same(call, got, due);
    }

    /** An object with a life behind it, and no text: the text that comes next is its whole text. */
    private static ViewRounds emptied() {
        ViewRounds x = Lives.lived();
        same("the text before", Check.parse(x, Lives.OTHER_HALF), 1);
        same("the rules before", Check.parse(x, Lives.RULES), 5);
        x.change(Lives.E, 1, 1, 0, 1);
        x.batch();
        x.change(Lives.E, 1, 1, 0, 1);
        return x;
    }

    /** Whatever was before, a text that is taken makes of an object what it makes of a new one. */
    private static ViewRounds taken(int rules, String text) {
        ViewRounds x = emptied();
        ViewRounds fresh = new ViewRounds();
        same("parse of " + text, Check.parse(x, text), rules);
        same("parse of " + text + " by a new object", Check.parse(fresh, text), rules);
        same("place of " + text, x.place(), NONE);
        same("ring of " + text, x.ring(0), NONE);
        same("rules of " + text, x.told(0), rules);
        CHECK.alike(text, Look.at(x), Look.at(fresh));
        return x;
    }

    /** What a refused text leaves: no rules, no text, no batch, and nothing of them later on. */
    private static void leavesNothing(String text, ViewRounds x) {
        CHECK.alike("after " + text, Look.atRules(x), Look.atRules(new ViewRounds()));
        String seen = Look.atFault(x);
        same("the text is empty after " + text, x.feed(' ', 1), 1);
        CHECK.alike("the fault stays after " + text, Look.atFault(x), seen);
        ViewRounds fresh = new ViewRounds();
        fresh.feed(' ', 1);
        same("rules after " + text, Check.parse(x, Lives.RULES), 5);
        same("rules of a new object", Check.parse(fresh, Lives.RULES), 5);
        CHECK.alike("rules after " + text, Look.at(x), Look.at(fresh));
        CHECK.alike("onwards after " + text, Look.onwards(x, false), Look.onwards(fresh, false));
    }

    /** A text with a mark before the byte where the fault is due. */
    private static void fault(int kind, String marked) {
        int place = marked.indexOf('^');
        String text = marked.substring(0, place) + marked.substring(place + 1);
        ViewRounds x = emptied();
        same("parse of " + marked, Check.parse(x, text), -10 - kind);
        same("place of " + marked, x.place(), place);
        if (kind != 6) {
            same("ring of " + marked, x.ring(0), NONE);
        }
        leavesNothing(marked, x);
    }

    private static void full(String text) {
        ViewRounds x = emptied();
        same("parse of " + text, Check.parse(x, text), FULL);
        same("place of " + text, x.place(), NONE);
        same("ring of " + text, x.ring(0), NONE);
        leavesNothing(text, x);
    }

    // ---- the text

    private static void newObject() {
        says("No text, no rules.");
        ViewRounds x = new ViewRounds();
        same("parse()", x.parse(), 0);
        same("feed of one byte", x.feed(' ', 1), 1);
        CHECK.alike("parsed and not", Look.at(x), Look.at(new ViewRounds()));
        same("place()", x.place(), NONE);
        same("ring(0)", x.ring(0), NONE);
        same("told(0)", x.told(0), 0);
        same("batch()", x.batch(), STATE);
    }

    private static void bytesOfOneFeed() {
        says("The n lowest bytes of a number, the lowest first, come behind the text");
        long bytes = 0x2e29_3128_6129_2e29L;
        for (int n = 1; n <= 8; n++) {
            ViewRounds x = new ViewRounds();
            same("feed of " + n, x.feed(bytes, n), n);
            same("feed of 2 more", x.feed(0x2020, 2), n + 2);
        }
        ViewRounds eight = new ViewRounds();
        same("a(1).    ", eight.feed(0x2020_202e_2931_2861L, 8), 8);
        same("it is read from its lowest byte on", eight.parse(), 1);
        ViewRounds one = new ViewRounds();
        for (char sign : "a(1).".toCharArray()) {
            one.feed(0x7777_7777_7777_7700L | sign, 1);
        }
        same("of each one byte alone", one.parse(), 1);
        ViewRounds high = new ViewRounds();
        same("a byte of 255 at the top", high.feed(0xff2e_2931_2861_2020L, 8), 8);
        same("parse()", high.parse(), -11);
        same("place()", high.place(), 7);
        says("BAD: n is not 1 .. 8");
        int[] outside = {0, -1, 9, 10, LOW, HIGH, -8, 256 + 1, LOW + 1};
        for (int n : outside) {
            ViewRounds x = Lives.lived();
            ViewRounds twin = Lives.lived();
            same("feed(.., " + n + ")", x.feed(bytes, n), BAD);
            CHECK.alike("after feed(.., " + n + ")", Look.at(x) + Look.onwards(x, false), Look.at(twin) + Look.onwards(twin, false));
        }
    }

    private static ViewRounds withText(String start, int length) {
        ViewRounds x = new ViewRounds();
        Check.feed(x, start);
        for (int i = start.length(); i < length; i++) {
            x.feed(' ', 1);
        }
        return x;
    }

    private static void bytesOfAText() {
        says("FULL: more than 600");
        for (int n = 1; n <= 8; n++) {
            ViewRounds last = withText("a(1)", 600 - n);
            same("up to 600 by " + n, last.feed(0x2e20_2020_2020_2020L >>> 8 * (8 - n), n), 600);
            same("behind 600", last.feed(' ', 1), FULL);
            same("behind 600, outside", last.feed(' ', 0), BAD);
            same("behind 600, outside", last.feed(' ', 9), BAD);
            same("the point is the last byte", last.parse(), 1);
            same("a text from the start", last.feed(' ', 1), 1);
            ViewRounds over = withText("a(1)", 601 - n);
            same("up to 601 by " + n, over.feed(0x3f3f_3f3f_3f3f_3f3fL, n), FULL);
            if (n > 1) {
                same("nothing of it came", over.feed('.', 1), 602 - n);
                same("the rest is as it was", over.parse(), 1);
            } else {
                same("nothing of it came", over.parse(), -11);
                same("its length", over.place(), 600);
            }
        }
        String rule = "a(1):-1=1,1=1,1=1,1=1,1=1.";
        String long16 = rule.repeat(15) + " ".repeat(600 - 16 * rule.length()) + rule;
        same("length", long16.length(), 600);
        taken(16, long16);
        fault(1, long16.substring(0, 599) + "^?");
        fault(1, long16.substring(0, 599) + " ^");
    }

    private static void blanks() {
        says("blanks and line ends (32, 10) count for nothing anywhere");
        String bare = "n(X,#):-a(X,12),~b(X),X<9,1!X. b(345). c(X):-a(X,Y),X=Y.";
        ViewRounds due = Lives.read(bare);
        String[] gaps = {" ", "\n", "  \n\n "};
        for (String gap : gaps) {
            StringBuilder spaced = new StringBuilder(gap);
            for (int i = 0; i < bare.length(); i++) {
                boolean inNumber = i + 1 < bare.length() && Character.isDigit(bare.charAt(i)) && Character.isDigit(bare.charAt(i + 1));
                spaced.append(bare.charAt(i)).append(inNumber ? "" : gap);
            }
            ViewRounds x = taken(3, spaced.toString());
            CHECK.alike("with gaps", Look.at(x), Look.at(due));
        }
        int[] others = {0, 1, 8, 9, 11, 12, 13, 31, 127, 128, 133, 160, 255, 32 + 128, 10 + 128};
        for (int sign : others) {
            fault(1, "^" + (char) sign + "a(1).");
            fault(1, "a(1) ^" + (char) sign + ".");
            fault(1, "a(1).^" + (char) sign);
        }
        says("A text of blanks alone has 0 rules, that are none");
        String[] empty = {"", " ", "\n", " \n \n", " ".repeat(600), "\n".repeat(600)};
        for (String text : empty) {
            ViewRounds x = taken(0, text);
            leavesNothing("blanks", x);
        }
    }

    // ---- rules and their parts

    private static void literals() {
        says("a HEAD; then a point; or : - and LITERALS, 1 to 5, with commas between, and a point");
        taken(1, "a(1).");
        fault(1, "a(1):-^.");
        fault(1, "a(1):^.");
        fault(1, "a(1)^-b(1).");
        fault(1, "a(1)^,b(1).");
        taken(1, "a(1):-b(1).");
        taken(1, "a(1):-~b(1).");
        taken(1, "a(1):-1=1.");
        fault(1, "a(1):-b(1)^");
        fault(1, "a(1):-b(1),^.");
        fault(1, "a(1):-b(1)^b(1).");
        fault(1, "a(1):-^,b(1).");
        says("more than .. 5 LITERALS (at the sign by which it is one too many: a name's, ~ , a condition's first TERM's)");
        String[] fives = {"a(1):-b(1),b(2),b(3),~b(4),~b(5)", "a(1):-~b(1),~b(2),~b(3),~b(4),~b(5)", "a(1):-1=1,1=1,1=1,1=1,1=1",
            "a(X):-X=1,b(X),~b(1),1<X,b(3)"};
        for (String five : fives) {
            taken(1, five + ".");
            taken(2, five + ". " + five + ".");
            fault(3, five + ", ^b(6).");
            fault(3, five + ", ^~b(6).");
            fault(3, five + ", ^1=1.");
            fault(3, five + ", ^X=1.");
            fault(3, five + ", ^z");
            fault(3, five + ", ^~?");
            fault(3, five + ", ^9?");
            fault(3, five + ", ^Z?");
            fault(1, five + ", ^?");
            fault(1, five + ", ^");
            fault(1, five + " ^b(6).");
        }
        says("more than .. 3 POSITIVE ones");
        String three = "a(X):-b(X),c(X),d(X)";
        taken(1, three + ".");
        taken(2, three + "." + three + ".");
        taken(1, three + ",~b(X),~b(X).");
        taken(1, three + ",X=X,~c(X).");
        taken(1, "a(X):-~b(X),1=X,b(X),c(X),d(X).");
        fault(3, three + ",^b(X).");
        fault(3, three + ",X=X,^b(X).");
        fault(3, "a(X):-b(X),~b(X),c(X),d(X), ^e(X).");
        fault(3, three + ",^b");
    }

    private static void termsOfALiteral() {
        says("a NAME, ( , TERMS, 1 to 3, with commas between, )");
        taken(1, "a(1).");
        taken(1, "a(1,2).");
        taken(1, "a(1,2,3).");
        taken(1, "a(1):-b(1,2,3),~b(1,2,4).");
        fault(1, "a(^).");
        fault(1, "a^.");
        fault(1, "a(1,2,3^,4).");
        fault(1, "a(1,2,3^,");
        fault(1, "a(1,^).");
        fault(1, "a(^,1).");
        fault(1, "a(1^;2).");
        fault(1, "a(1):-b(^).");
        fault(1, "a(1):-b^.");
        fault(1, "a(1):-b(1,2,3^,4).");
        fault(1, "a(1):-~b(1,2,3^,4).");
        says("its last TERM may be #");
        taken(1, "a(#):-b(X).");
        taken(1, "a(X,#):-b(X).");
        taken(1, "a(X,1,#):-b(X).");
        fault(1, "a(#^,X):-b(X).");
        fault(1, "a(X,#^,X):-b(X).");
        fault(1, "a(#^#):-b(X).");
        fault(1, "a(1,2,3^,#):-b(X).");
        says("A LITERAL: a NAME with TERMS in brackets likewise (without #)");
        fault(1, "a(1):-b(^#).");
        fault(1, "a(1):-b(1,^#).");
        fault(1, "a(1):-~b(1,^#).");
        fault(1, "a(#):-b(^#).");
        says("a CONDITION: a TERM, < or = or ! (not the same), a TERM");
        fault(1, "a(1):-^#=1.");
        fault(1, "a(1):-1=^#.");
        fault(1, "a(1):-1^>1.");
        fault(1, "a(1):-1^~1.");
        fault(1, "a(1):-1^;1.");
        fault(1, "a(1):-1<^=1.");
        fault(1, "a(1):-1=^b(1).");
        fault(1, "a(1):-~^1=1.");
    }

    private static void signsOfNamesAndTerms() {
        says("NAMES are a .. z, one sign");
        taken(1, "a(1).");
        taken(1, "z(1).");
        fault(1, "^`(1).");
        fault(1, "^{(1).");
        fault(1, "^A(1).");
        fault(1, "a^b(1).");
        taken(1, "b(1):-a(1),~z(1).");
        fault(1, "b(1):-^`(1).");
        fault(1, "b(1):-^{(1).");
        fault(1, "b(1):-~^`(1).");
        fault(1, "b(1):-~^{(1).");
        fault(1, "b(1):-~^A(1).");
        fault(1, "^" + (char) ('a' + 128) + "(1).");
        says("VARIABLES A .. Z, one sign");
        taken(1, "a(A,Z):-b(A,Z),A<Z.");
        fault(1, "a(^@):-b(A).");
        fault(1, "a(^[):-b(A).");
        fault(1, "a(1):-b(^@).");
        fault(1, "a(1):-b(^[).");
        fault(1, "a(1):-^@<1.");
        fault(1, "a(1):-^[<1.");
        fault(1, "a(1):-1<^@.");
        fault(1, "a(1):-1<^[.");
        fault(1, "a(A^A):-b(A).");
        fault(1, "a(A^1):-b(A).");
        fault(1, "a(A):-b(A),A^A=1.");
        says("numbers of 1 to 3 digits, that stand together");
        String[] numbers = {"0", "9", "00", "99", "000", "007", "999"};
        for (String number : numbers) {
            ViewRounds x = taken(1, "a(" + number + "):-" + number + "=" + number + ".");
            same("its value", x.row(0, 0, 0), Integer.parseInt(number));
        }
        fault(1, "a(^/).");
        fault(1, "a(^:).");
        fault(1, "a(1):-^/=1.");
        fault(1, "a(1):-^:=1.");
        fault(1, "a(100^0).");
        fault(1, "a(000^0).");
        fault(1, "a(1):-b(123^4).");
        fault(1, "a(1):-123^4=1.");
        fault(1, "a(1):-1=123^4.");
        fault(1, "a(1 ^2).");
        fault(1, "a(1\n^2).");
        fault(1, "a(12 ^3).");
        fault(1, "a(1):-1 ^2=1.");
        fault(1, "a(^-1).");
        says("each one is a RELATION, numbered as they come in the text");
        ViewRounds x = taken(2, "z(X):-y(X),~a(X). a(X):-y(X),b(X).");
        same("z", x.relation('z'), 0);
        same("y", x.relation('y'), 1);
        same("a", x.relation('a'), 2);
        same("b", x.relation('b'), 3);
    }

    // ---- faults

    private static void faultPlaces() {
        says("1 another sign is wanted (at the sign that stands there); its length at the end");
        String text = "n(X,#):-a(X,12),~b(X),X<9,1!X.";
        for (int length = 1; length < text.length(); length++) {
            fault(1, text.substring(0, length) + "^");
            fault(1, text.substring(0, length) + " \n^");
        }
        for (int at = 0; at < text.length(); at++) {
            fault(1, text.substring(0, at) + "^?" + text.substring(at));
            fault(1, text.substring(0, at) + " \n^?");
        }
        fault(1, text + "^?");
        fault(1, text + "^.");
        says("2 a relation has another number of TERMS than where it came first (at the ) behind them)");
        taken(3, "a(1,2):-b(1). a(2,3). c(1):-a(1,2),~b(1).");
        fault(2, "a(1,2). a(1^).");
        fault(2, "a(1,2). a(1,2,3^).");
        fault(2, "a(1). a(1,2 ^).");
        fault(2, "a(1):-a(1,2^).");
        fault(2, "a(1):-b(1),b(1,2^).");
        fault(2, "a(1):-b(1),~b(1,2^).");
        fault(2, "a(1):-~b(1,2),b(1^).");
        fault(2, "a(1):-b(1). b(1,2^):-a(1).");
        fault(2, "a(#):-b(1). c(1):-a(1,1^).");
        fault(2, "a(1,#):-b(1). c(1):-a(1^).");
        fault(2, "a(1,2). a(#^):-b(1).");
        fault(1, "a(1). a(1,2,3^,4).");
        fault(1, "a(1). a(1,2^.");
        fault(1, "a(1). a(1,2^");
    }

    private static void tooMany() {
        says("3 more than 8 relations (at the name)");
        taken(2, EIGHT);
        taken(3, EIGHT + "h(X):-a(X),~b(X).");
        fault(3, EIGHT + "^i(1).");
        fault(3, EIGHT + "^i");
        fault(3, EIGHT + "a(1):-^i(1).");
        fault(3, EIGHT + "a(1):-~ ^i(1).");
        fault(3, EIGHT.replace("h(X)", "h(X),~ ^i(X)"));
        fault(1, EIGHT + "^I");
        says("3 more than .. 16 rules");
        String[] rules = {"a(1).", "a(X):-b(X)."};
        for (String rule : rules) {
            taken(15, rule.repeat(15));
            taken(16, rule.repeat(16));
            taken(16, rule.repeat(16) + " \n");
            fault(3, rule.repeat(16) + "^" + rule);
            fault(3, rule.repeat(16) + " ^a");
            fault(3, rule.repeat(16) + "^z?");
            fault(1, rule.repeat(16) + "^.");
            fault(1, rule.repeat(16) + "^A");
            fault(1, rule.repeat(15) + "a^");
        }
        says("3 more than .. 6 variables in a rule");
        String six = "a(A,B,C):-b(A,B,C),b(D,E,F)";
        taken(1, six + ".");
        taken(2, six + ". a(U,V,W):-b(U,V,W),b(X,Y,Z).");
        taken(1, six + ",~b(F,E,D),A<F.");
        fault(3, six + ",b(^G,A,A).");
        fault(3, six + ",b(A,^Z,A).");
        fault(3, six + ",b(A,A,^G");
        fault(3, six + ",~b(A,A,^G).");
        fault(3, six + ",^G<A.");
        fault(3, six + ",A<^G.");
        fault(3, "a(A,B,C):-b(D,E,F),~b(A,A,^G).");
        fault(3, "a(A,B,C):-b(D,E,F),^Z=1.");
        taken(1, "a(#):-b(A,B,C),b(D,E,F).");
        taken(1, "a(A,B,#):-b(A,B,C),b(D,E,F).");
        fault(3, "a(A,B,#):-b(A,B,C),b(D,E,F),1=^G.");
    }

    private static void looseVariables() {
        says("4 a variable of the HEAD, of a NEGATIVE LITERAL or of a CONDITION is in no POSITIVE one (at the point)");
        taken(1, "a(X):-b(X).");
        taken(1, "a(X):-~c(X),X=1,b(X).");
        taken(1, "a(1):-b(X,Y),~c(Y),X!Y.");
        fault(4, "a(X)^.");
        fault(4, "a(X) ^.");
        fault(4, "a(X):-b(Y)^.");
        fault(4, "a(X,Y):-b(X)^.");
        fault(4, "a(X):-~b(X)^.");
        fault(4, "a(X):-X=1^.");
        fault(4, "a(1):-~b(X)^.");
        fault(4, "a(1):-b(Y),~b(X)^.");
        fault(4, "a(1):-b(Y),X=Y^.");
        fault(4, "a(1):-b(Y),Y<X^.");
        fault(4, "a(1):-Z=Z^.");
        for (char letter = 'A'; letter <= 'Z'; letter++) {
            taken(1, "a(" + letter + "):-b(" + letter + "),~c(" + letter + ")," + letter + "=1.");
            fault(4, "a(" + letter + ")^.");
            fault(4, "a(1):-~c(" + letter + ")^.");
            fault(4, "a(1):-" + letter + "=1^.");
        }
        fault(4, "b(X):-c(X). a(X):-c(Y)^. ?");
        fault(1, "a(X)^");
        fault(1, "a(X):-b(Y)^?");
    }

    private static void loneCounts() {
        says("5 a rule with # has no LITERALS");
        taken(1, "a(#):-1=1.");
        taken(1, "a(#):-~b(1).");
        taken(1, "a(1,#):-b(X).");
        fault(5, "a(#)^.");
        fault(5, "a(1,#) ^.");
        fault(5, "a(1,2,#)^. ?");
        says("or its HEAD has another rule (at the point of the one that makes it so)");
        taken(2, "a(#):-b(X). c(#):-b(X).");
        taken(3, "a(1). a(2). c(#):-b(X).");
        taken(2, "a(#):-b(X). c(1):-a(1).");
        fault(5, "a(#):-b(X). a(1)^.");
        fault(5, "a(#):-b(X). a(X):-b(X)^.");
        fault(5, "a(#):-b(X). a(#):-b(X)^.");
        fault(5, "a(1). a(#):-b(X)^.");
        fault(5, "a(1). a(2). c(1). a(#):-b(X) ^. a(3).");
        fault(5, "a(1). a(#)^.");
        says("The first one as the text is read counts; of one place the least");
        fault(4, "a(X,#)^.");
        fault(4, "a(#):-b(X). a(Y)^.");
        fault(4, "a(1). a(#):-b(X),~b(Y)^.");
        fault(2, "a(#):-b(X). a(1,Y^).");
        fault(3, "a(X):-Y=1,A=B,C=D,^E=F.");
        fault(4, "a(X)^. ?");
        fault(4, "a(X)^. b(1,2). b(1).");
        fault(2, "b(1,2). b(1^). a(X).");
        fault(5, "a(#)^. b(X).");
        fault(1, "w(X):-e(X),~w(X). w^");
        fault(4, "w(X):-e(X),~w(X). w(X)^.");
        fault(5, "w(X):-e(X),~w(X). n(#)^.");
    }

    // ---- layers and rings

    private static String inRing(String text) {
        ViewRounds x = emptied();
        same("parse of " + text, Check.parse(x, text), -16);
        same("place of " + text, x.place(), text.length());
        StringBuilder names = new StringBuilder();
        for (int k = 0; x.ring(k) != NONE && k < 9; k++) {
            names.append((char) x.ring(k));
        }
        int[] outside = {names.length(), names.length() + 1, -1, LOW, HIGH, 8, 9};
        for (int k : outside) {
            same("ring(" + k + ") of " + text, x.ring(k), NONE);
        }
        leavesNothing(text, x);
        return names.toString();
    }

    private static void ring(String names, String text) {
        CHECK.alike("the ring of " + text, inRing(text), names);
    }

    private static void rings() {
        says("6 there are no LAYERS (PLACE: the length)");
        taken(1, "w(X):-e(X),w(X).");
        taken(1, "w(X):-e(X),~v(X).");
        taken(1, "w(#):-v(X).");
        fault(6, "w(X):-e(X),~w(X).^");
        fault(6, "w(X):-e(X),~w(X). \n^");
        fault(6, "w(#):-w(X).^");
        says("THE RING is all relations that lie on one ring with such a one");
        ring("w", "w(X):-e(X),~w(X).");
        ring("w", "w(#):-w(X).");
        ring("w", "w(#):-e(X),~w(X).");
        ring("ab", "a(X):-e(X),~b(X). b(X):-a(X).");
        ring("ab", "a(X):-b(X). b(X):-e(X),~a(X). c(X):-a(X). e(X):-f(X).");
        ring("ab", "a(#):-b(X). b(X):-a(X). c(X):-b(X),~a(X).");
        ring("abcdefgh", "a(X):-b(X). b(X):-c(X). c(X):-d(X). d(X):-e(X). e(X):-f(X). f(X):-g(X). g(X):-h(X). h(X):-a(X),~a(X).");
        ring("hgfedcba", "h(X):-g(X). g(X):-f(X). f(X):-e(X). e(X):-d(X). d(#):-c(X). c(X):-b(X). b(X):-a(X). a(X):-h(X).");
        says("of several rings those with the least relation");
        ring("b", "a(X):-b(X),c(X). c(X):-e(X),~c(X). b(X):-e(X),~b(X).");
        ring("c", "a(X):-c(X),b(X). b(X):-e(X),~b(X). c(X):-e(X),~c(X).");
        ring("cd", "a(X):-a(X),c(X),b(X). b(X):-e(X),~b(X). c(X):-d(X). d(X):-e(X),~c(X).");
        says("The k-th relation's name (a .. z) of THE RING of the latest parse(); NONE");
        String[] later = {"a", "a(1).", "", "v(1).v(2).v(3).v(4).v(5).v(6).v(7).p(X,Y):-v(X),v(Y)."};
        int[] answers = {-11, 1, 0, FULL};
        for (int i = 0; i < later.length; i++) {
            ViewRounds x = Lives.refused();
            same("place before", x.place(), 46);
            same("the first of it", x.ring(0), 'k');
            same("the last of it", x.ring(2), 'm');
            same("behind it", x.ring(3), NONE);
            same("a good text", Check.parse(x, Lives.OTHER_HALF), 1);
            same("no ring", x.ring(0), NONE);
            same("no place", x.place(), NONE);
            ViewRounds again = Lives.refused();
            again.parse();
            same("another fault", again.place(), 6);
            same("no ring", again.ring(0), NONE);
            same("a later text", Check.parse(again, later[i]), answers[i]);
            same("its place", again.place(), i == 0 ? 1 : NONE);
            same("its ring", again.ring(0), NONE);
        }
    }

    private static void layersAre(String text, int... due) {
        ViewRounds x = Lives.read(text);
        int greatest = 0;
        for (int i = 0; i < due.length; i++) {
            same("layer of " + i + " in " + text, x.of(i, 2), due[i]);
            greatest = Math.max(greatest, due[i]);
        }
        same("relations of " + text, x.told(1), due.length);
        same("the greatest layer of " + text, x.told(5), greatest);
    }

    private static void layers() {
        says("TABLES have 0; those of VIEWS are the least numbers, 1 at least");
        layersAre("a(1).", 1);
        layersAre("a(1):-b(1).", 1, 0);
        layersAre("a(1):-b(1),~c(1).", 1, 0, 0);
        layersAre("a(#):-b(X).", 1, 0);
        says("its HEAD's is not below that of any relation in a LITERAL, and above it, if that is NEGATIVE or the HEAD has #");
        layersAre("a(1):-b(1). b(1).", 1, 1);
        layersAre("a(1):-~b(1). b(1).", 2, 1);
        layersAre("a(#):-b(1). b(1).", 2, 1);
        layersAre("a(1):-b(1). b(#):-c(1). c(1).", 2, 2, 1);
        layersAre("a(1):-~b(1),c(1). b(1):-~c(1). c(1).", 3, 2, 1);
        layersAre("a(1):-~b(1). b(1):-~c(1). c(1):-~d(1). d(1):-~e(1). e(1):-~f(1). f(1):-~g(1). g(1):-~h(1). h(1).", 8, 7, 6, 5, 4, 3, 2, 1);
        layersAre("a(1):-~b(1). b(1):-~c(1). c(1):-~d(1). d(1):-~e(1). e(1):-~f(1). f(1):-~g(1). g(1):-~h(1).", 7, 6, 5, 4, 3, 2, 1, 0);
        layersAre("h(1). g(#):-h(1). f(#):-g(1). e(#):-f(1). d(#):-e(1). c(#):-d(1). b(#):-c(1). a(#):-b(1).", 1, 2, 3, 4, 5, 6, 7, 8);
        layersAre("a(1):-b(1). b(1):-a(1). b(1):-~c(1). c(1):-d(1). d(1):-~e(1).", 2, 2, 1, 1, 0);
        says("a CONDITION has no relation");
        layersAre("a(X):-b(X),~c(X). c(1). b(X):-t(X),X<5.", 2, 1, 1, 0);
        layersAre("a(X):-b(X),~c(X). c(1). b(#):-t(X),X<5.", 2, 1, 1, 0);
    }

    // ---- texts that do not fit

    private static String facts(int count) {
        StringBuilder facts = new StringBuilder();
        for (int i = 0; i < count; i++) {
            facts.append("v(").append(i).append(").");
        }
        return facts.toString();
    }

    private static void textsThatAreFull() {
        says("FULL: they would not fit; there are no rules then (no relation has more than 40 ROWS)");
        ViewRounds forty = taken(10, facts(7) + "m(0,1).m(0,2).p(X,Y):-v(X),v(Y),X!Y,~m(X,Y).");
        same("rows", forty.of(forty.relation('p'), 3), 40);
        full(facts(7) + "m(0,1).m(0,0).p(X,Y):-v(X),v(Y),X!Y,~m(X,Y).");
        ViewRounds groups = taken(10, facts(7) + "m(0,1).m(0,2).p(X,Y,#):-v(X),v(Y),X!Y,~m(X,Y).");
        same("rows", groups.of(groups.relation('p'), 3), 40);
        full(facts(7) + "m(0,1).m(0,0).p(X,Y,#):-v(X),v(Y),X!Y,~m(X,Y).");
        ViewRounds lower = taken(11, facts(7) + "m(0,1).m(0,2).p(X,Y):-v(X),v(Y),X!Y,~m(X,Y).q(#):-p(X,Y).");
        same("number", lower.row(lower.relation('q'), 0, 0), 40);
        full(facts(7) + "m(0,1).m(0,0).p(X,Y):-v(X),v(Y),X!Y,~m(X,Y).q(1):-~p(0,0).");
        says("no # is above 999, or it is FULL");
        ViewRounds most = taken(12, facts(10) + "m(1,1,1).n(#):-v(X),v(Y),v(Z),~m(X,Y,Z).");
        same("number", most.row(most.relation('n'), 0, 0), 999);
        full(facts(10) + "m(1,1,10).n(#):-v(X),v(Y),v(Z),~m(X,Y,Z).");
        full(facts(10) + "n(#):-v(X),v(Y),v(Z).");
        ViewRounds apart = taken(11, facts(10) + "n(X,#):-v(X),v(Y),v(Z).");
        same("ten groups", apart.of(apart.relation('n'), 3), 10);
        same("each of its own number", apart.row(apart.relation('n'), 9, 1), 100);
    }

    private static void placeOfTheLatest() {
        says("The PLACE of the FAULT of the latest parse(); NONE");
        ViewRounds x = new ViewRounds();
        same("before any", x.place(), NONE);
        same("parse", Check.parse(x, "?"), -11);
        same("at the first byte", x.place(), 0);
        same("feed", x.feed('a', 1), 1);
        same("it stays while a text comes", x.place(), 0);
        same("a refused feed", x.feed('a', 9), BAD);
        same("it stays", x.place(), 0);
        same("parse", x.parse(), -11);
        same("at the end", x.place(), 1);
        same("parse of blanks", Check.parse(x, " "), 0);
        same("no fault", x.place(), NONE);
        same("parse", Check.parse(x, "a(1)?"), -11);
        same("place", x.place(), 4);
        same("parse", Check.parse(x, "a(1)."), 1);
        same("no fault", x.place(), NONE);
        same("batch", x.batch(), 0);
        same("no fault", x.place(), NONE);
    }

    public static void main(String[] args) {
        newObject();
        bytesOfOneFeed();
        bytesOfAText();
        blanks();
        literals();
        termsOfALiteral();
        signsOfNamesAndTerms();
        faultPlaces();
        tooMany();
        looseVariables();
        loneCounts();
        rings();
        layers();
        textsThatAreFull();
        placeOfTheLatest();
        CHECK.finish();
    }
}
