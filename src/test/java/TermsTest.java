import java.lang.reflect.Constructor;
import java.lang.reflect.Field;
import java.lang.reflect.Method;
import java.lang.reflect.Modifier;
import java.util.Random;
import java.util.TreeSet;

/** The document from its first line up to the promises: each sentence in its words, and what shows that it holds. */
public final class TermsTest {
    private static final int NONE = -1, BAD = -2, FULL = -3, STATE = -4;
    private static final String NAMES = "abcdefghijklmnopqrstuvwxyz";
    private static final String VARIABLES = "ABCDEFGHIJKLMNOPQRSTUVWXYZ";
    private static final String DIGITS = "0123456789";
    private static final String FACE = "public final class ViewRounds {"
        + " public static final int NONE = -1, BAD = -2, FULL = -3, STATE = -4;"
        + " public ViewRounds();"
        + " public int feed(long bytes, int n);"
        + " public int parse();"
        + " public int place();"
        + " public int ring(int k);"
        + " public int relation(int name);"
        + " public int of(int relation, int what);"
        + " public int change(int table, int a, int b, int c, int sign);"
        + " public int batch();"
        + " public int drop();"
        + " public int difference(int k, int what);"
        + " public int undo();"
        + " public int has(int relation, int a, int b, int c);"
        + " public int row(int relation, int k, int what);"
        + " public int derivations(int view, int a, int b, int c);"
        + " public int why(int view, int a, int b, int c, int what);"
        + " public boolean anew();"
        + " public int told(int what); }";
    private static final Check CHECK = new Check();
    private static Document document;

    private static void says(String words) {
        document.says(words);
    }

    private static void same(String call, long got, long due) {
        CHECK.same(call, got, due);
    }

    private static void shows(String what, String got, String due) {
        CHECK.alike(what, got, due);
    }

    private static void rows(ViewRounds x, char name, String due) {
        shows("rows of " + name, Story.rows(x, name), due);
    }

    private static void batch(ViewRounds x, String changes, String differences) {
        int due = differences.isEmpty() ? 0 : differences.split(", ").length;
        same("batch() of " + changes, Story.batch(x, changes), due);
        shows("differences of " + changes, Story.differences(x), differences);
        CHECK.holds("anew() after " + changes, x.anew());
    }

    private static ViewRounds taken(int rules, String text) {
        ViewRounds x = new ViewRounds();
        same("parse of " + text, Check.parse(x, text), rules);
        same("place of " + text, x.place(), NONE);
        return x;
    }

    /** A text with a mark before the byte where the fault is due. */
    private static ViewRounds fault(int kind, String marked) {
        int place = marked.indexOf('^');
        ViewRounds x = new ViewRounds();
        same("parse of " + marked, Check.parse(x, marked.substring(0, place) + marked.substring(place + 1)), -10 - kind);
        same("place of " + marked, x.place(), place);
        same("rules of " + marked, x.told(0), 0);
        return x;
    }

    // ---- what it is

    private static void whatItIs() {
        says("# ViewRounds ## What it is");
        says("Views over tables by rules with recursion, negation and counts, kept up batch by batch: what a batch changes in the tables"
            + " becomes what comes and goes in the views; layers, rings that are refused, derivations, batches that are taken back.");
        ViewRounds x = taken(4, "p(X,Y):-e(X,Y). p(X,Y):-p(X,Z),e(Z,Y). u(X):-v(X),~p(1,X). n(X,#):-p(X,Y).");
        batch(x, "e 1 2, e 2 3, v 3, v 9", "+p 1 2, +p 1 3, +p 2 3, +u 9, +n 1 2, +n 2 1");
        batch(x, "-e 2 3", "-p 1 3, -p 2 3, +u 3, +n 1 1, -n 1 2, -n 2 1");
        same("layer of p", x.of(0, 2), 1);
        same("layer of u", x.of(2, 2), 2);
        same("derivations of p(1, 2)", x.derivations(0, 1, 2, 0), 1);
        same("taken back", x.undo(), 6);
        shows("what that makes", Story.differences(x), "+p 1 3, +p 2 3, -u 3, -n 1 1, +n 1 2, +n 2 1");
        rows(x, 'p', "1 2, 1 3, 2 3");
        same("a ring is refused", Check.parse(x, "w(X):-v(X),~w(X)."), -16);
        same("it has one relation", x.ring(0), 'w');
        says("======== RULES are read from a text; blanks and line ends (32, 10) count for nothing anywhere.");
        String text = "n(X,#):-a(X,12),~b(X),X<9,1!X. b(345).";
        for (int at = 0; at <= text.length(); at++) {
            boolean inNumber = at > 0 && at < text.length() && isDigit(text.charAt(at - 1)) && isDigit(text.charAt(at));
            String[] gaps = inNumber ? new String[0] : new String[] {" ", "\n", " \n\n "};
            for (String gap : gaps) {
                ViewRounds spaced = taken(2, text.substring(0, at) + gap + text.substring(at));
                batch(spaced, "a 2 12, a 1 12, a 9 12, a 3 13", "+n 2 1");
                rows(spaced, 'b', "345");
            }
        }
        for (int sign = 0; sign < 256; sign++) {
            if (sign != ' ' && sign != '\n') {
                fault(1, (NAMES.indexOf(sign) < 0 ? "^" + (char) sign : (char) sign + "^") + "a(1).");
            }
        }
    }

    private static boolean isDigit(char sign) {
        return DIGITS.indexOf(sign) >= 0;
    }

    private static void calls() {
        says("An object is used for at most 512 calls after it has been made; what later calls answer is free.");
        ViewRounds x = new ViewRounds();
        int calls = 0;
        for (char sign : "a(X):-b(X).".toCharArray()) {
            calls++;
            same("call " + calls, x.feed(sign, 1), calls);
        }
        calls++;
        same("call " + calls, x.parse(), 1);
        int batches = 0;
        while (calls < 512) {
            calls++;
            same("call " + calls, x.change(1, calls, 0, 0, 1), 1);
            calls++;
            if (calls % 4 == 0) {
                same("call " + calls, x.drop(), 1);
            } else {
                batches++;
                same("call " + calls, x.batch(), batches <= 40 ? 1 : FULL);
            }
        }
        same("calls", calls, 512);
    }

    // ---- the public face

    private static String header(Method method) {
        StringBuilder text = new StringBuilder(Modifier.toString(method.getModifiers()));
        text.append(' ').append(method.getReturnType()).append(' ').append(method.getName()).append('(');
        for (int i = 0; i < method.getParameterCount(); i++) {
            text.append(i == 0 ? "" : ", ").append(method.getParameterTypes()[i]);
        }
        return text.append(')').toString();
    }

    private static void face() throws Exception {
        says("## The public face");
        says(FACE);
        same("a public final class", ViewRounds.class.getModifiers(), Modifier.PUBLIC | Modifier.FINAL);
        TreeSet<String> due = new TreeSet<>();
        String[] members = FACE.substring(FACE.indexOf('{') + 1, FACE.lastIndexOf('}')).split(";");
        for (int i = 2; i < members.length - 1; i++) {
            due.add(members[i].trim().replaceAll(" (?:bytes|n|k|name|relation|what|table|a|b|c|sign|view)(?=[,)])", ""));
        }
        TreeSet<String> seen = new TreeSet<>();
        for (Method method : ViewRounds.class.getDeclaredMethods()) {
            if (!Modifier.isPrivate(method.getModifiers())) {
                seen.add(header(method));
            }
        }
        same("methods", due.size(), 17);
        shows("the methods", String.join("\n", seen), String.join("\n", due));
        Constructor<?>[] constructors = ViewRounds.class.getDeclaredConstructors();
        same("constructors", constructors.length, 1);
        same("its modifiers", constructors[0].getModifiers(), Modifier.PUBLIC);
        same("its parameters", constructors[0].getParameterCount(), 0);
        String[] constants = {"NONE", "BAD", "FULL", "STATE"};
        for (int i = 0; i < constants.length; i++) {
            Field field = ViewRounds.class.getDeclaredField(constants[i]);
            shows(constants[i], Modifier.toString(field.getModifiers()) + " " + field.getType(), "public static final int");
            same(constants[i], field.getInt(null), -1 - i);
        }
    }

    // ---- the text

    private static void rules() {
        says("## Terms");
        says("A rule: a HEAD; then a point; or : - and LITERALS, 1 to 5, with commas between, and a point.");
        rows(taken(1, "a(1)."), 'a', "1");
        rows(taken(2, "a(1).a(2)."), 'a', "1, 2");
        taken(1, "a(1):-b(1).");
        taken(1, "a(1): -b(1).");
        StringBuilder literals = new StringBuilder("1=1");
        for (int count = 1; count <= 5; count++) {
            rows(taken(1, "a(1):-" + literals + "."), 'a', "1");
            fault(1, "a(1):-" + literals + ",^.");
            fault(1, "a(1):-" + literals + "^");
            literals.append(",").append(count).append("=").append(count);
        }
        fault(3, "a(1):-1=1,1=1,2=2,3=3,4=4,^5=5.");
        fault(1, "a(1):-^.");
        fault(1, "^.");
        fault(1, "^:-b(1).");
        says("HEAD: a NAME, ( , TERMS, 1 to 3, with commas between, ) ; its last TERM may be # .");
        rows(taken(1, "a(1)."), 'a', "1");
        rows(taken(1, "a(1,2)."), 'a', "1 2");
        rows(taken(1, "a(1,2,3)."), 'a', "1 2 3");
        fault(1, "a(1,2,3^,4).");
        rows(taken(1, "a(#):-1=1."), 'a', "1");
        rows(taken(1, "a(7,#):-1=1."), 'a', "7 1");
        rows(taken(1, "a(7,8,#):-1=1."), 'a', "7 8 1");
        fault(1, "a(#^,7):-1=1.");
        fault(1, "a(#^,#):-1=1.");
        says("A LITERAL: a NAME with TERMS in brackets likewise (without #), POSITIVE, or with ~ before it NEGATIVE;");
        ViewRounds x = taken(2, "a(X):-b(X),c(X). d(X):-b(X),~c(X).");
        batch(x, "b 1, b 2, c 2, c 3", "+a 2, +d 1");
        taken(1, "a(1):-b(1,2,3),~c(X,Y,2),d(X,Y).");
        fault(1, "a(1):-b(^#).");
        fault(1, "a(1):-b(1),~b(^#).");
        fault(1, "a(1):-~^~b(1).");
        says("or a CONDITION: a TERM, < or = or ! (not the same), a TERM.");
        ViewRounds tests = taken(4, "l(X,Y):-v(X),v(Y),X<Y. s(X,Y):-v(X),v(Y),X=Y. d(X,Y):-v(X),v(Y),X!Y. k(X):-v(X),3!X,X<7,5=5.");
        Story.batch(tests, "v 0, v 3, v 7, v 999");
        rows(tests, 'l', "0 3, 0 7, 0 999, 3 7, 3 999, 7 999");
        rows(tests, 's', "0 0, 3 3, 7 7, 999 999");
        rows(tests, 'd', "0 3, 0 7, 0 999, 3 0, 3 7, 3 999, 7 0, 7 3, 7 999, 999 0, 999 3, 999 7");
        rows(tests, 'k', "0");
        fault(1, "a(1):-~^1=1.");
        fault(1, "a(1):-1^>0.");
    }

    private static void names() {
        says("NAMES are a .. z, one sign, and each one is a RELATION, numbered as they come in the text;");
        for (char name : NAMES.toCharArray()) {
            ViewRounds x = taken(1, name + "(5).");
            same("relation of " + name, x.relation(name), 0);
            fault(1, name + "^" + name + "(5).");
        }
        ViewRounds x = taken(3, "z(X):-y(X),~a(X). a(X):-y(X),b(X). c(1):-z(1),d(1).");
        String order = "zyabcd";
        for (int i = 0; i < order.length(); i++) {
            same("relation of " + order.charAt(i), x.relation(order.charAt(i)), i);
        }
        same("relations", x.told(1), order.length());
        says("TERMS: VARIABLES A .. Z, one sign, or numbers of 1 to 3 digits, that stand together.");
        for (char letter : VARIABLES.toCharArray()) {
            ViewRounds y = taken(1, "a(" + letter + "):-b(7," + letter + ")," + letter + "!1,~b(" + letter + ",7).");
            batch(y, "b 7 1, b 7 3, b 7 5, b 5 7", "+a 3");
            fault(1, "a(" + letter + "^" + letter + "):-b(" + letter + ").");
        }
        for (int number = 0; number <= 999; number++) {
            rows(taken(1, "a(" + number + ")."), 'a', "" + number);
            rows(taken(1, "a(" + String.format("%03d", number) + "):-" + number + "=" + number + "."), 'a', "" + number);
        }
        fault(1, "a(000^0).");
        fault(1, "a(1 ^2).");
        fault(1, "a(1\n^2).");
        fault(1, "a(12 ^3).");
    }

    /** Each of the 256 bytes behind a text that is right so far: whether it may stand there. */
    private static void next(String text, String wanted) {
        for (int sign = 0; sign < 256; sign++) {
            String whole = text + (char) sign;
            ViewRounds x = new ViewRounds();
            int answer = Check.parse(x, whole);
            boolean refused = answer == -11 && x.place() == text.length();
            boolean blank = sign == ' ' || sign == '\n';
            CHECK.holds("sign " + sign + " behind " + text, refused != (blank || wanted.indexOf(sign) >= 0));
        }
    }

    private static void signs() {
        String term = VARIABLES + DIGITS;
        String literal = NAMES + term + "~";
        next("", NAMES);
        next("a", "(");
        next("a(", term + "#");
        next("a(X", ",)");
        next("a(1", DIGITS + ",)");
        next("a(12", DIGITS + ",)");
        next("a(123", ",)");
        next("a(1 ", ",)");
        next("a(#", ")");
        next("a(1,", term + "#");
        next("a(1,#", ")");
        next("a(1,2", DIGITS + ",)");
        next("a(1,2,", term + "#");
        next("a(1,2,3", DIGITS + ")");
        next("a(1,2,345", ")");
        next("a(1,2,X", ")");
        next("a(1)", ".:");
        next("a(1):", "-");
        next("a(1):-", literal);
        next("a(1):-b", "(");
        next("a(1):-b(", term);
        next("a(1):-b(1,", term);
        next("a(1):-b(1,2,", term);
        next("a(1):-b(1,2,X", ")");
        next("a(1):-b(1)", ",.");
        next("a(1):-b(1),", literal);
        next("a(1):-~", NAMES);
        next("a(1):-~b", "(");
        next("a(1):-~b(", term);
        next("a(1):-~b(1,2,3", DIGITS + ")");
        next("a(1):-~b(1)", ",.");
        next("a(1):-1", DIGITS + "<=!");
        next("a(1):-123", "<=!");
        next("a(1):-X", "<=!");
        next("a(1):-X<", term);
        next("a(1):-X=", term);
        next("a(1):-X!", term);
        next("a(1):-b(X),X<1", DIGITS + ",.");
        next("a(1):-b(X),X<123", ",.");
        next("a(1):-b(X),1=X", ",.");
        next("a(1):-b(1).", NAMES);
        next("a(1).", NAMES);
    }

    private static void viewsAndTables() {
        says("A relation that is the HEAD of a rule is a VIEW, the others are TABLES.");
        ViewRounds x = taken(3, "a(X):-b(X),~c(X),d(X). c(X):-e(X). f(1).");
        String views = "acf";
        for (char name = 'a'; name <= 'f'; name++) {
            boolean view = views.indexOf(name) >= 0;
            int relation = x.relation(name);
            same("whether " + name + " is a view", x.of(relation, 0), view ? 1 : 0);
            same("a change of " + name, x.change(relation, 1, 0, 0, 1) == BAD ? 1 : 0, view ? 1 : 0);
            same("derivations of " + name, x.derivations(relation, 1, 0, 0) == BAD ? 1 : 0, view ? 0 : 1);
        }
    }

    // ---- faults

    private static void faults() {
        says("FAULTS, with the PLACE, a byte of the text (its length at the end): 1 another sign is wanted (at the sign that stands there).");
        signs();
        String text = "n(X,#):-a(X,12),~b(X),X<9,1!X.";
        for (int length = 1; length < text.length(); length++) {
            fault(1, text.substring(0, length) + "^");
            fault(1, text.substring(0, length) + "\n ^");
            fault(1, text.substring(0, length) + " ^;");
        }
        fault(1, " ".repeat(599) + "^?");
        fault(1, " ".repeat(596) + "a(1)^");
        says("2 a relation has another number of TERMS than where it came first (at the ) behind them).");
        String[] terms = {"1", "1,2", "1,2,3"};
        for (int first = 0; first < 3; first++) {
            for (int later = 0; later < 3; later++) {
                String head = "a(" + terms[first] + ").";
                if (first == later) {
                    taken(2, head + " a(" + terms[later] + ").");
                    taken(2, head + " b(1):-a(" + terms[later] + "),~a(" + terms[later] + ").");
                } else {
                    fault(2, head + " a(" + terms[later] + "^).");
                    fault(2, head + " a(" + terms[later] + " ^)?");
                    fault(2, head + " b(1):-a(" + terms[later] + "^).");
                    fault(2, head + " b(1):-~a(" + terms[later] + "^).");
                    fault(2, "b(1):-a(" + terms[first] + "),a(" + terms[later] + "^).");
                    fault(2, "b(1):-~a(" + terms[first] + "). a(" + terms[later] + "^).");
                }
            }
        }
        fault(2, "a(1,#):-b(1). c(1):-a(1^).");
        fault(2, "a(1,2). a(#^):-b(1).");
    }

    private static void tooMany() {
        says("3 more than 8 relations (at the name), 16 rules, 5 LITERALS, 3 POSITIVE ones, 6 variables in a rule"
            + " (at the sign by which it is one too many: a name's, ~ , a condition's first TERM's).");
        String eight = "a(X):-b(X),c(X),d(X).e(X):-f(X),g(X),h(X).";
        taken(3, eight + "h(1).");
        fault(3, eight + " ^i(1).");
        fault(3, eight + "a(1):-^i(1).");
        fault(3, eight + "a(1):-~^i(1).");
        taken(16, "a(1).".repeat(16));
        fault(3, "a(1).".repeat(16) + "^a(1).");
        fault(3, "a(1).".repeat(16) + "\n^b?");
        fault(1, "a(1).".repeat(16) + "^~");
        String[] fives = {"b(1),~b(1),1=1,b(1),b(1)", "~b(1),~b(1),~b(1),~b(1),~b(1)", "1=1,1=1,b(1),~b(1),1=1"};
        for (String five : fives) {
            taken(1, "a(1):-" + five + ".");
            fault(3, "a(1):-" + five + ",^b(1).");
            fault(3, "a(1):-" + five + ", ^~b(1).");
            fault(3, "a(1):-" + five + ",\n^1=1.");
            fault(3, "a(1):-" + five + ",^X=1.");
        }
        taken(1, "a(1):-b(1),b(2),b(3),~b(4),~b(5).");
        fault(3, "a(1):-b(1),b(2),b(3),^b(4).");
        fault(3, "a(1):-~b(0),b(1),b(2),b(3),^b(4).");
        taken(2, "a(A,B,C):-b(D,E,F),b(A,B,C). a(G,H,I):-b(G,H,I),b(U,V,W).");
        fault(3, "a(A,B,C):-b(D,E,F),b(A,B,^G).");
        fault(3, "a(A,B,C):-b(D,E,F),~b(^G,B,C).");
        fault(3, "a(A,B,C):-b(D,E,F),^G=A.");
        fault(3, "a(A,B,C):-b(D,E,F),A=^G.");
    }

    private static void otherFaults() {
        says("4 a variable of the HEAD, of a NEGATIVE LITERAL or of a CONDITION is in no POSITIVE one (at the point).");
        taken(1, "a(X):-X=1,~c(X),b(X).");
        fault(4, "a(X)^.");
        fault(4, "a(1,X):-b(Y) ^.");
        fault(4, "a(X):-~b(X)^.");
        fault(4, "a(X):-X=1^.");
        fault(4, "a(1):-b(Y),~c(X)^.");
        fault(4, "a(1):-b(Y),X<Y^.");
        fault(4, "a(1):-b(Y),Y!X^.");
        fault(4, "a(X,#):-b(Y)^.");
        fault(4, "a(X):-b(Y),Y=1,~b(Y)^.");
        fault(4, "a(1):-~b(X),b(Y),Y=1^.");
        fault(4, "a(1):-X=1,~b(Y),b(Y)^.");
        for (char letter : VARIABLES.toCharArray()) {
            fault(4, "a(" + letter + ")^.");
            fault(4, "a(1):-~b(" + letter + ")^.");
            fault(4, "a(1):-1!" + letter + "^.");
        }
        says("5 a rule with # has no LITERALS, or its HEAD has another rule (at the point of the one that makes it so).");
        taken(2, "a(#):-b(X). c(#):-a(X).");
        fault(5, "a(#)^.");
        fault(5, "a(1,#) ^.");
        fault(5, "a(#):-b(X). c(1). a(1)^. c(2).");
        fault(5, "a(1). c(1). a(#):-b(X)^. c(2).");
        fault(5, "a(#):-b(X). a(#):-b(X)^.");
        says("6 there are no LAYERS (PLACE: the length).");
        fault(6, "w(X):-e(X),~w(X).^");
        fault(6, "w(X):-e(X),~w(X). \n ^");
        fault(6, "w(#):-w(X).^");
        fault(6, "w(X):-e(X),~u(X). u(X):-w(X).^");
        taken(2, "w(X):-e(X),u(X). u(X):-w(X).");
        says("The first one as the text is read counts; of one place the least.");
        fault(1, "^? a(X).");
        fault(4, "a(X)^. ?");
        fault(2, "a(1). a(1,2^). b(X).");
        fault(3, "a(1):-b(1),b(1),b(1),^b(1,2),?");
        fault(5, "a(#)^. b(X).");
        fault(4, "a(X,#)^.");
        fault(4, "a(1). a(#):-b(X),X=Y^.");
        fault(4, "w(X):-e(X),~w(X). a(X)^.");
        fault(5, "w(X):-e(X),~w(X). a(#)^.");
        fault(1, "w(X):-e(X),~w(X). a^");
        fault(3, "w(X):-e(X),~w(X)." + "w(1).".repeat(15) + "^w(1).");
    }

    // ---- layers and rings

    private static void layers(String text, String names, int... due) {
        ViewRounds x = new ViewRounds();
        CHECK.holds("rules: " + text, Check.parse(x, text) > 0);
        int greatest = 0;
        for (int i = 0; i < due.length; i++) {
            same("layer of " + names.charAt(i) + " in " + text, x.of(x.relation(names.charAt(i)), 2), due[i]);
            greatest = Math.max(greatest, due[i]);
        }
        same("the greatest layer of " + text, x.told(5), greatest);
    }

    private static void ring(String names, String text) {
        ViewRounds x = fault(6, text + "^");
        shows("the ring of " + text, Story.ring(x), names);
        for (int k = names.length(); k < 10; k++) {
            same("ring(" + k + ") of " + text, x.ring(k), NONE);
        }
    }

    private static void layersAndRings() {
        says("LAYERS: TABLES have 0; those of VIEWS are the least numbers, 1 at least, so that for each rule its HEAD's is not below"
            + " that of any relation in a LITERAL, and above it, if that is NEGATIVE or the HEAD has # .");
        layers("a(1).", "a", 1);
        layers("a(X):-t(X). b(X):-a(X). c(X):-b(X),t(X).", "tabc", 0, 1, 1, 1);
        layers("a(X):-t(X),~s(X). b(X):-t(X),~a(X). c(X):-b(X),a(X). d(#):-c(X). e(X):-d(X),~t(X).", "stabcde", 0, 0, 1, 2, 2, 3, 3);
        layers("e(X):-d(X). d(#):-c(X). c(X):-b(X). b(X):-t(X),~a(X). a(1).", "tabcde", 0, 1, 2, 2, 3, 3);
        layers("a(X):-b(X). b(X):-a(X),c(X). c(#):-d(X). d(X):-t(X),X<5.", "abcdt", 2, 2, 2, 1, 0);
        layers("a(#):-t(X),1<2.", "at", 1, 0);
        layers("a(X):-t(X). a(X):-u(X),~b(X). b(X):-u(X),~c(X). c(1). d(X):-a(X).", "tabcd", 0, 3, 2, 1, 3);
        layers("a(1):-~b(1). b(1):-~c(1). c(1):-~d(1). d(1):-~e(1). e(1):-~f(1). f(1):-~g(1). g(1):-~h(1). h(1).", "abcdefgh",
            8, 7, 6, 5, 4, 3, 2, 1);
        says("If there are none: THE RING is all relations that lie on one ring (through rules, from HEADS to relations in LITERALS)"
            + " with such a one; of several rings those with the least relation.");
        ring("a", "a(X):-t(X),~a(X).");
        ring("a", "a(#):-a(X).");
        ring("ab", "a(X):-t(X),~b(X). b(X):-a(X).");
        ring("ab", "a(X):-b(X). b(X):-t(X),~a(X).");
        ring("ba", "b(X):-a(X). a(#):-b(X).");
        ring("abc", "a(X):-b(X). b(X):-c(X),t(X). c(X):-t(X),~a(X). d(X):-a(X).");
        // the ring of a has no such one, and neither x nor y lies on the ring to which they lead
        ring("cd", "a(X):-a(X). x(X):-c(X). c(X):-d(X),y(X). d(X):-t(X),~c(X). y(X):-t(X).");
        ring("bc", "a(X):-d(X). b(X):-t(X),~c(X). c(X):-b(X). e(X):-t(X),~f(X). f(X):-e(X).");
        ring("ef", "e(X):-t(X),~f(X). f(X):-e(X). b(X):-t(X),~c(X). c(X):-b(X).");
        // d comes before b in the text, though the rule of b that makes a ring is read first
        ring("d", "a(X):-d(X),b(X). b(X):-t(X),~b(X). d(X):-t(X),~d(X).");
        // two rings through one relation are one
        ring("abc", "a(X):-t(X),~b(X). b(X):-a(X),c(X). c(X):-b(X).");
        ViewRounds good = taken(1, "a(X):-a(X).");
        same("no ring without a fault", good.ring(0), NONE);
    }

    // ---- rows and views

    private static void rowsOfTables() {
        says("ROWS are values 0 .. 999, one for each TERM.");
        ViewRounds x = taken(3, "a(X):-b(X). c(Y,X):-d(X,Y). e(Z,Y,X):-f(X,Y,Z).");
        batch(x, "b 0, b 999, d 0 999, f 999 0 999, f 0 999 0", "+a 0, +a 999, +c 999 0, +e 0 999 0, +e 999 0 999");
        String[] outside = {"b 1000 0 0", "b -1 0 0", "d 1000 0 0", "d 0 1000 0", "d 0 -1 0", "f 0 0 1000", "f 0 0 -1", "f -1 0 0", "f 0 1000 0"};
        for (String row : outside) {
            String[] parts = row.split(" ");
            int table = x.relation(parts[0].charAt(0));
            int a = Integer.parseInt(parts[1]);
            int b = Integer.parseInt(parts[2]);
            int c = Integer.parseInt(parts[3]);
            same("change of " + row, x.change(table, a, b, c, 1), BAD);
            same("has of " + row, x.has(table, a, b, c), BAD);
        }
        says("TABLES have ROWS with a COUNT, 1 to 9.");
        ViewRounds y = taken(1, "a(X):-b(X).");
        for (int count = 1; count <= 9; count++) {
            same("one more", Story.batch(y, "b 5"), count == 1 ? 1 : 0);
            rows(y, 'b', count == 1 ? "5" : "5 *" + count);
            same("the count", y.has(1, 5, 0, 0), count);
            rows(y, 'a', "5");
        }
        same("a tenth", Story.batch(y, "b 5"), BAD);
        for (int count = 8; count >= 0; count--) {
            same("one less", Story.batch(y, "-b 5"), count == 0 ? 1 : 0);
            same("the count", y.has(1, 5, 0, 0), count);
            same("rows", y.of(1, 3), count == 0 ? 0 : 1);
        }
        same("one less than none", Story.batch(y, "-b 5"), BAD);
    }

    private static void derivations() {
        says("A DERIVATION of a ROW of a VIEW (without #): a rule, and values of all its variables, so that the HEAD is the ROW,"
            + " ROWS of POSITIVE LITERALS are there, those of NEGATIVE ones are not, CONDITIONS hold.");
        ViewRounds x = taken(3, "a(X):-e(X,Y),e(Y,Z),~f(Z,X),X!Z. a(X):-e(X,X). a(4).");
        int[][] edges = {{0, 1}, {1, 2}, {2, 0}, {2, 1}, {1, 1}, {3, 2}, {4, 3}, {4, 4}, {4, 2}};
        int[][] refused = {{0, 2}, {1, 0}, {2, 4}};
        boolean[][] e = new boolean[6][6];
        boolean[][] f = new boolean[6][6];
        for (int[] edge : edges) {
            Story.changes(x, "e " + edge[0] + " " + edge[1] + ", e " + edge[0] + " " + edge[1]);
            e[edge[0]][edge[1]] = true;
        }
        for (int[] pair : refused) {
            Story.changes(x, "f " + pair[0] + " " + pair[1]);
            f[pair[0]][pair[1]] = true;
        }
        CHECK.holds("rows come", x.batch() > 0);
        for (int a = 0; a < 6; a++) {
            int due = (e[a][a] ? 1 : 0) + (a == 4 ? 1 : 0);
            for (int b = 0; b < 6; b++) {
                for (int c = 0; c < 6; c++) {
                    due += e[a][b] && e[b][c] && !f[c][a] && a != c ? 1 : 0;
                }
            }
            same("derivations of a(" + a + ")", x.derivations(0, a, 0, 0), due);
            same("a(" + a + ")", x.has(0, a, 0, 0), due > 0 ? 1 : 0);
        }
        // a row that is there only with a value that the head or a literal names
        ViewRounds named = taken(2, "a(7,X):-b(X,3,X). c(X):-a(7,X),~b(X,3,1).");
        batch(named, "b 1 3 1, b 2 3 2, b 3 3 2, b 2 2 2", "+a 7 1, +a 7 2, +c 2");
    }

    private static void viewsFromNothing() {
        says("VIEWS have, layer by layer from 1 on, all ROWS with a DERIVATION, as they come from nothing"
            + " (no ROW holds itself up, nor some one another, around).");
        rows(taken(1, "a(X):-a(X)."), 'a', "");
        ViewRounds around = taken(4, "a(X):-b(X). b(X):-a(X). b(X):-t(X). c(X):-s(X),~a(X).");
        batch(around, "t 1, t 2, s 1, s 2, s 3", "+a 1, +a 2, +b 1, +b 2, +c 3");
        batch(around, "-t 1", "-a 1, -b 1, +c 1");
        batch(around, "-t 2, t 3", "-a 2, +a 3, -b 2, +b 3, +c 2, -c 3");
        same("taken back", around.undo(), 6);
        rows(around, 'a', "2");
        ViewRounds both = taken(2, "a(X):-a(X),t(X). a(X):-s(X).");
        batch(both, "t 1, t 2", "");
        batch(both, "s 1", "+a 1");
        batch(both, "-s 1", "-a 1");
        closures();
    }

    /** Ways over a graph that changes, against the ways that three loops find; twice as dear as the rules, and simpler. */
    private static void closures() {
        ViewRounds x = taken(5, "p(X,Y):-e(X,Y). p(X,Y):-p(X,Z),p(Z,Y). u(X,Y):-v(X),v(Y),~p(X,Y). r(X):-p(X,X). n(X,#):-u(X,Y),~r(Y).");
        Random random = new Random(7);
        int size = 6;
        boolean[][] edge = new boolean[size][size];
        boolean[] point = new boolean[size];
        for (int turn = 0; turn < 60; turn++) {
            StringBuilder changes = new StringBuilder();
            for (int i = 0; i < 4; i++) {
                int a = random.nextInt(size);
                int b = random.nextInt(size);
                changes.append(changes.length() == 0 ? "" : ", ").append(edge[a][b] ? "-" : "").append("e " + a + " " + b);
                edge[a][b] = !edge[a][b];
            }
            int c = random.nextInt(size);
            changes.append(point[c] ? ", -v " : ", v ").append(c);
            point[c] = !point[c];
            CHECK.holds("batch of " + changes, Story.batch(x, changes.toString()) >= 0);
            compare(x, edge, point);
            CHECK.holds("anew", x.anew());
        }
    }

    private static void compare(ViewRounds x, boolean[][] edge, boolean[] point) {
        int size = point.length;
        boolean[][] way = new boolean[size][];
        for (int i = 0; i < size; i++) {
            way[i] = edge[i].clone();
        }
        for (int via = 0; via < size; via++) {
            for (int a = 0; a < size; a++) {
                for (int b = 0; b < size; b++) {
                    way[a][b] |= way[a][via] && way[via][b];
                }
            }
        }
        for (int a = 0; a < size; a++) {
            int number = 0;
            for (int b = 0; b < size; b++) {
                boolean apart = point[a] && point[b] && !way[a][b];
                number += apart && !way[b][b] ? 1 : 0;
                same("p(" + a + ", " + b + ")", x.has(x.relation('p'), a, b, 0), way[a][b] ? 1 : 0);
                same("u(" + a + ", " + b + ")", x.has(x.relation('u'), a, b, 0), apart ? 1 : 0);
            }
            same("r(" + a + ")", x.has(x.relation('r'), a, 0, 0), way[a][a] ? 1 : 0);
            for (int b = 0; b <= size; b++) {
                same("n(" + a + ", " + b + ")", x.has(x.relation('n'), a, b, 0), b > 0 && b == number ? 1 : 0);
            }
        }
    }

    private static void numbers() {
        says("With # : for each ROW of the HEAD's TERMS before # , how many values of all variables fulfil the LITERALS,"
            + " if that is 1 at least, stands in place of # .");
        ViewRounds x = taken(4, "n(X,#):-e(X,Y),e(Z,Y). m(#):-e(X,Y),~f(Y). k(9,X,#):-e(X,Y). o(#):-~f(7).");
        rows(x, 'n', "");
        rows(x, 'm', "");
        rows(x, 'o', "1");
        // of n: 1 with 5 and 6, 5 of two; 2 with 5 of two
        batch(x, "e 1 5, e 1 6, e 2 5, e 1 5", "+n 1 3, +n 2 2, +m 3, +k 9 1 2, +k 9 2 1");
        batch(x, "f 5", "+m 1, -m 3");
        batch(x, "f 6, f 7", "-m 1, -o 1");
        batch(x, "-e 1 5", "");
        batch(x, "-e 1 5", "+n 1 1, -n 1 3, +n 2 1, -n 2 2, +k 9 1 1, -k 9 1 2");
        // constants before # are one row, however many values there are
        ViewRounds fixed = taken(1, "c(3,4,#):-v(X),w(Y),X<Y.");
        batch(fixed, "v 1, v 2, w 2, w 3", "+c 3 4 3");
    }

    // ---- batches

    private static void batches() {
        says("A BATCH gathers changes of TABLES, each 1 more or 1 less of a ROW, in any order.");
        String[] orders = {"-b 1, b 1, b 2, c 2", "b 1, -b 1, b 2, c 2", "c 2, b 2, b 1, -b 1", "b 2, -b 1, c 2, b 1"};
        for (String order : orders) {
            ViewRounds x = taken(1, "a(X):-b(X),c(X).");
            Story.changes(x, order);
            same("changes", x.told(2), 4);
            rows(x, 'b', "");
            same("batch() of " + order, x.batch(), 1);
            rows(x, 'b', "2");
            rows(x, 'c', "2");
        }
        says("When it is done, COUNTS change by the sums, and VIEWS become what they are for the new TABLES;");
        ViewRounds sums = taken(1, "a(X):-b(X),~c(X).");
        batch(sums, "b 1, b 1, b 1, -b 1, b 2, b 3, c 3", "+a 1, +a 2");
        rows(sums, 'b', "1 *2, 2, 3");
        batch(sums, "-b 1, c 2, -c 3, -c 3, c 3, b 4, -b 4", "-a 2, +a 3");
        rows(sums, 'b', "1, 2, 3");
        rows(sums, 'c', "2");
        says("each ROW that comes (1) or goes (-1) in a VIEW is a DIFFERENCE;"
            + " they stand by relations, then by ROWS (first value, second, third), rising.");
        ViewRounds order = taken(3, "z(X,Y,Z):-t(X,Y,Z). b(Z,X):-t(X,Y,Z). a(Y):-t(X,Y,Z).");
        batch(order, "t 10 2 3, t 2 10 3, t 2 3 10, t 2 3 2",
            "+z 2 3 2, +z 2 3 10, +z 2 10 3, +z 10 2 3, +b 2 2, +b 3 2, +b 3 10, +b 10 2, +a 2, +a 3, +a 10");
        batch(order, "-t 2 3 10, t 2 3 9, -t 10 2 3, t 11 2 3",
            "+z 2 3 9, -z 2 3 10, -z 10 2 3, +z 11 2 3, -b 3 10, +b 3 11, +b 9 2, -b 10 2");
        batch(order, "t 2 3 9, -t 2 3 2, t 2 3 2", "");
        manyDifferences();
        says("No relation has more than 40 ROWS, no # is above 999, or it is FULL.");
        ViewRounds rows = taken(3, "a(X,Y):-b(X),c(Y). n(#):-b(X),d(Y). m(X,Y,#):-b(X),c(Y).");
        Story.batch(rows, "b 1, b 2, b 3, b 4, b 5, c 1, c 2, c 3, c 4, c 5, c 6, c 7, c 8");
        same("40 rows of a view", rows.of(0, 3), 40);
        same("40 rows with #", rows.of(rows.relation('m'), 3), 40);
        same("48 of both", Story.batch(rows, "b 6"), FULL);
        same("45 of both", Story.batch(rows, "c 9"), FULL);
        same("40 rows still", rows.of(0, 3), 40);
        fullTables();
        fullNumbers();
    }

    /** Each of six views loses its 40 rows and gets as many others. */
    private static void manyDifferences() {
        ViewRounds x = taken(6, "a(X,Y):-s(X),t(Y).b(X,Y):-a(X,Y).c(X,Y):-b(X,Y).d(X,Y):-c(X,Y).e(X,Y):-d(X,Y).f(X,Y):-a(X,Y),e(X,Y).");
        Story.changes(x, "s 0, s 1, s 2, s 3, s 4, t 0, t 1, t 2, t 3, t 4, t 5, t 6, t 7");
        same("40 come in each", x.batch(), 240);
        for (int i = 0; i < 8; i++) {
            Story.changes(x, "-t " + i + ", t " + (8 + i));
        }
        same("40 go and 40 come in each", x.batch(), 480);
        String names = "abcdef";
        for (int k = 0; k < 480; k++) {
            int second = k % 16;
            same("relation of " + k, x.difference(k, 0), x.relation(names.charAt(k / 80)));
            same("first value of " + k, x.difference(k, 1), k % 80 / 16);
            same("second value of " + k, x.difference(k, 2), second);
            same("sign of " + k, x.difference(k, 4), second < 8 ? -1 : 1);
        }
        same("none behind them", x.difference(480, 0), NONE);
    }

    private static void fullTables() {
        for (int count = 38; count <= 42; count++) {
            ViewRounds x = taken(1, "a(1):-b(X,Y).");
            for (int i = 0; i < count; i++) {
                x.change(1, i / 10, i % 10, 0, 1);
            }
            same("a table of " + count, x.batch(), count <= 40 ? 1 : FULL);
            same("rows", x.of(1, 3), count <= 40 ? count : 0);
        }
    }

    private static void fullNumbers() {
        int[][] sides = {{27, 37}, {37, 27}, {25, 40}, {40, 25}, {31, 32}, {32, 32}};
        for (int[] side : sides) {
            ViewRounds x = taken(1, "n(#):-b(X),c(Y).");
            for (int i = 0; i < side[0]; i++) {
                x.change(1, i, 0, 0, 1);
            }
            same("the first side", x.batch(), 0);
            for (int i = 0; i < side[1]; i++) {
                x.change(2, i, 0, 0, 1);
            }
            int number = side[0] * side[1];
            same("a number of " + number, x.batch(), number <= 999 ? 1 : FULL);
            rows(x, 'n', number <= 999 ? "" + number : "");
            same("rows of the second side", x.of(2, 3), number <= 999 ? side[1] : 0);
        }
    }

    // ---- answers

    private static void answers() {
        says("Answers: NONE there is no such thing, BAD a number is outside, FULL no room, STATE there are no rules;"
            + " of several STATE first, then BAD, NONE, FULL.");
        ViewRounds none = new ViewRounds();
        same("STATE before BAD", none.of(99, 99), STATE);
        same("STATE before BAD and NONE", none.difference(-1, 9), STATE);
        same("STATE before NONE", none.undo(), STATE);
        same("STATE before NONE", none.relation('?'), STATE);
        ViewRounds x = Lives.lived();
        same("BAD before NONE", x.difference(-1, 9), BAD);
        same("BAD before NONE", x.row(0, 99, 4), BAD);
        same("BAD before NONE", x.why(0, 9, 9, 0, 8), BAD);
        same("NONE", x.difference(-1, 4), NONE);
        same("NONE", x.row(0, 99, 3), NONE);
        same("NONE", x.why(0, 9, 9, 0, 7), NONE);
        for (int i = x.told(2); i < 60; i++) {
            x.change(Lives.V, 100 + i, 0, 0, 1);
        }
        same("BAD before FULL", x.change(Lives.V, 1000, 0, 0, 1), BAD);
        same("FULL", x.change(Lives.V, 999, 0, 0, 1), FULL);
        same("FULL of a table", x.batch(), FULL);
        for (int i = 0; i < 59; i++) {
            x.change(Lives.V, 100 + i, 0, 0, 1);
        }
        x.change(Lives.T, 7, 7, 7, -1);
        same("BAD before FULL", x.batch(), BAD);
        while (x.feed(' ', 1) != FULL) {
            same("BAD before FULL", x.feed(' ', 0), BAD);
        }
        same("BAD before FULL", x.feed(' ', 9), BAD);
        says("What answers so changes nothing but the text where it is read.");
        for (int turn = 0; turn < 2; turn++) {
            ViewRounds asked = Lives.lived();
            ViewRounds twin = Lives.lived();
            refusedCalls(asked);
            shows("seen after refused calls", Look.at(asked), Look.at(twin));
            shows("going on after refused calls", Look.onwards(asked, turn == 0), Look.onwards(twin, turn == 0));
        }
        ViewRounds read = Lives.lived();
        same("a fault", read.parse(), -11);
        same("the text is empty", read.feed('a', 1), 1);
    }

    private static void refusedCalls(ViewRounds x) {
        same("feed", x.feed('?', 9), BAD);
        same("ring", x.ring(0), NONE);
        same("relation", x.relation('q'), NONE);
        same("of", x.of(7, 0), BAD);
        same("of", x.of(0, 5), BAD);
        same("change of a view", x.change(Lives.P, 1, 1, 1, 1), BAD);
        same("change by 0", x.change(Lives.E, 1, 1, 1, 0), BAD);
        same("change of a value outside", x.change(Lives.E, 1, 1000, 1, 1), BAD);
        same("difference", x.difference(0, 5), BAD);
        same("difference", x.difference(999, 0), NONE);
        same("has", x.has(Lives.T, 0, 0, 1000), BAD);
        same("row", x.row(Lives.T, 40, 0), NONE);
        same("row", x.row(Lives.T, 0, 4), BAD);
        same("derivations", x.derivations(Lives.T, 0, 0, 0), BAD);
        same("why", x.why(Lives.N, 1, 1, 0, 0), BAD);
        same("why", x.why(Lives.P, 9, 9, 0, 0), NONE);
        same("told", x.told(6), BAD);
    }

    public static void main(String[] args) throws Exception {
        document = new Document(CHECK, "# ViewRounds", "## Promise 1:");
        whatItIs();
        calls();
        face();
        rules();
        names();
        viewsAndTables();
        faults();
        tooMany();
        otherFaults();
        layersAndRings();
        rowsOfTables();
        derivations();
        viewsFromNothing();
        numbers();
        batches();
        answers();
        document.ends();
        CHECK.finish();
    }
}
