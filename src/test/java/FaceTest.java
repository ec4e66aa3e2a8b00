import java.lang.reflect.Constructor;
import java.lang.reflect.Field;
import java.lang.reflect.Method;
import java.lang.reflect.Modifier;
import java.nio.file.Files;
import java.nio.file.Path;
import java.util.Arrays;
import java.util.TreeSet;
import java.util.stream.Collectors;

/** The face is the document's and nothing more; the source keeps to the rules that can be seen in its words. */
public final class FaceTest {
    private static final String[] METHODS = {
        "int feed(long,int)", "int parse()", "int place()", "int ring(int)", "int relation(int)", "int of(int,int)",
        "int change(int,int,int,int,int)", "int batch()", "int drop()", "int difference(int,int)", "int undo()",
        "int has(int,int,int,int)", "int row(int,int,int)", "int derivations(int,int,int,int)",
        "int why(int,int,int,int,int)", "boolean anew()", "int told(int)"};
    private static final String[] WORDS = {"throw", "try", "catch", "finally", "synchronized", "assert", "native", "protected",
        "Object", "hashCode", "toString", "System", "Thread", "Random", "double", "float", "instanceof"};
    private static final Check CHECK = new Check();

    private static String shown(Method method) {
        String parameters = Arrays.stream(method.getParameterTypes()).map(Class::getName).collect(Collectors.joining(","));
        return method.getReturnType().getName() + " " + method.getName() + "(" + parameters + ")";
    }

    private static void checkMembers() {
        TreeSet<String> open = new TreeSet<>();
        TreeSet<String> openNames = new TreeSet<>();
        for (Method method : ViewRounds.class.getDeclaredMethods()) {
            if (!Modifier.isPrivate(method.getModifiers())) {
                open.add(shown(method));
                openNames.add(method.getName());
                CHECK.holds(method + " is public and of an object", method.getModifiers() == Modifier.PUBLIC);
            }
        }
        CHECK.holds("the methods are the document's: " + open, open.equals(new TreeSet<>(Arrays.asList(METHODS))));
        for (Method method : ViewRounds.class.getDeclaredMethods()) {
            boolean hidden = Modifier.isPrivate(method.getModifiers());
            CHECK.holds(method + " bears no open name", !hidden || !openNames.contains(method.getName()));
        }
        for (Constructor<?> constructor : ViewRounds.class.getDeclaredConstructors()) {
            CHECK.same("constructor", constructor.getModifiers(), Modifier.PUBLIC);
            CHECK.same("its parameters", constructor.getParameterCount(), 0);
        }
        TreeSet<String> fields = new TreeSet<>();
        for (Field field : ViewRounds.class.getDeclaredFields()) {
            if (!Modifier.isPrivate(field.getModifiers())) {
                fields.add(field.getName());
            }
        }
        CHECK.holds("the open fields are the constants", fields.toString().equals("[BAD, FULL, NONE, STATE]"));
        CHECK.same("the class", ViewRounds.class.getModifiers(), Modifier.PUBLIC | Modifier.FINAL);
        checkNested(openNames);
    }

    private static void checkNested(TreeSet<String> openNames) {
        Class<?>[] nested = ViewRounds.class.getDeclaredClasses();
        CHECK.holds("at most twelve classes", nested.length < 12);
        for (Class<?> type : nested) {
            CHECK.holds(type + " is static", Modifier.isStatic(type.getModifiers()));
            CHECK.holds(type + " is not open", (type.getModifiers() & (Modifier.PUBLIC | Modifier.PROTECTED)) == 0);
            for (Method method : type.getDeclaredMethods()) {
                CHECK.holds(method + " bears no open name", !openNames.contains(method.getName()));
                CHECK.holds(method + " takes at most seven", method.getParameterCount() <= 7);
            }
            for (Field field : type.getDeclaredFields()) {
                boolean fixed = Modifier.isFinal(field.getModifiers()) && field.getType() == int.class;
                CHECK.holds(field + " is no static state", !Modifier.isStatic(field.getModifiers()) || fixed);
            }
        }
    }

    private static void checkSource() throws Exception {
        String source = Files.readString(Path.of("src/main/java/ViewRounds.java"));
        CHECK.holds("signs 0 to 127 alone", source.chars().allMatch(sign -> sign < 128));
        String bare = source.replaceAll("(?s)/\\*.*?\\*/", "").replaceAll("//[^\n]*", "");
        CHECK.holds("no lambda", !bare.contains("->"));
        CHECK.holds("no method reference", !bare.contains("::"));
        CHECK.holds("nothing from outside", !bare.contains("import") && !bare.contains("package"));
        CHECK.holds("no Exact", !bare.contains("Exact"));
        for (String word : WORDS) {
            CHECK.holds("no " + word, !bare.matches("(?s).*\\b" + word + "\\b.*"));
        }
    }

    public static void main(String[] args) throws Exception {
        checkMembers();
        checkSource();
        CHECK.finish();
    }
}
