import java.util.ArrayList;
import java.util.Arrays;
import java.util.Comparator;
import java.util.List;
import java.util.Map;
import java.util.TreeMap;
import java.util.TreeSet;

/**
 * A second reading of the document, as slow and plain as can be: every answer is worked from the
 * words of the document with the Java library, and shares nothing with the class.
 */
final class Oracle {
    static final int NONE = -1, BAD = -2, FULL = -3, STATE = -4;

    static final Comparator<List<Integer>> RISING = (left, right) -> {
        for (int i = 0; i < left.size(); i++) {
            int order = Integer.compare(left.get(i), right.get(i));
            if (order != 0) {
                return order;
            }
        }
        return 0;
    };

    static final class Fault extends RuntimeException {
        private static final long serialVersionUID = 1L;
        final int kind;
        final int place;

        Fault(int kind, int place) {
            this.kind = kind;
            this.place = place;
        }
    }

    /** A sign of the text that is no blank. */
    record Sign(char sign, int place) {
    }

    /** Terms are written as in the text: "X", "17", "#". */
    record Literal(char kind, char name, List<String> terms) {
    }

    record Rule(char head, List<String> terms, List<Literal> literals) {
        boolean counted() {
            return terms.get(terms.size() - 1).equals("#");
        }

        TreeSet<String> variables() {
            TreeSet<String> all = new TreeSet<>();
            List<String> terms = new ArrayList<>(this.terms);
            literals.forEach(literal -> terms.addAll(literal.terms));
            terms.stream().filter(Oracle::isVariable).forEach(all::add);
            return all;
        }
    }

    record Difference(int view, List<Integer> row, int sign) {
    }

    record Change(int table, List<Integer> row, int sign) {
    }

    private final StringBuilder text = new StringBuilder();
    private int place = NONE;
    private List<Character> ring = new ArrayList<>();
    private List<Rule> rules = new ArrayList<>();
    private List<Character> names = new ArrayList<>();
    private Map<Character, Integer> sizes = new TreeMap<>();
    private int[] layers = {};
    private List<TreeMap<List<Integer>, Integer>> rows = new ArrayList<>();
    private List<Change> batch = new ArrayList<>();
    private final List<List<TreeMap<List<Integer>, Integer>>> before = new ArrayList<>();
    private List<Difference> latest = new ArrayList<>();

    // ---- reading

    private List<Sign> signs;
    private int next;
    private int end;

    int feed(long bytes, int n) {
        if (n < 1 || n > 8) {
            return BAD;
        }
        if (text.length() + n > 600) {
            return FULL;
        }
        for (int i = 0; i < n; i++) {
            text.append((char) (bytes >> 8 * i & 255));
        }
        return text.length();
    }

    int parse() {
        List<Rule> read = new ArrayList<>();
        String source = text.toString();
        text.setLength(0);
        forget();
        try {
            readAll(source, read);
        } catch (Fault fault) {
            place = fault.place;
            forgetRules();
            return -10 - fault.kind;
        }
        rules = read;
        List<TreeMap<List<Integer>, Integer>> empty = new ArrayList<>();
        names.forEach(name -> empty.add(new TreeMap<>(RISING)));
        rows = work(empty);
        if (rows == null) {
            forgetRules();
            return FULL;
        }
        return rules.size();
    }

    private void forget() {
        place = NONE;
        ring = new ArrayList<>();
        batch = new ArrayList<>();
        before.clear();
        latest = new ArrayList<>();
        forgetRules();
    }

    private void forgetRules() {
        rules = new ArrayList<>();
        names = new ArrayList<>();
        sizes = new TreeMap<>();
        layers = new int[0];
        rows = new ArrayList<>();
    }

    private void readAll(String source, List<Rule> read) {
        signs = new ArrayList<>();
        next = 0;
        end = source.length();
        for (int i = 0; i < end; i++) {
            if (source.charAt(i) != 32 && source.charAt(i) != 10) {
                signs.add(new Sign(source.charAt(i), i));
            }
        }
        while (next < signs.size()) {
            if (read.size() == 16 && at("abcdefghijklmnopqrstuvwxyz")) {
                throw here(3);
            }
            read.add(readRule(read));
        }
        findLayers(read);
    }

    private Rule readRule(List<Rule> read) {
        TreeSet<String> variables = new TreeSet<>();
        List<Literal> literals = new ArrayList<>();
        Literal head = readNamed('+', variables, true);
        Rule rule = new Rule(head.name, head.terms, literals);
        if (want(".:") == ':') {
            want("-");
            do {
                readLiteral(literals, variables);
            } while (want(",.") == ',');
        }
        next--;
        checkPoint(rule, read);
        next++;
        return rule;
    }

    private void checkPoint(Rule rule, List<Rule> read) {
        TreeSet<String> held = new TreeSet<>();
        TreeSet<String> wanted = new TreeSet<>(rule.terms);
        for (Literal literal : rule.literals) {
            (literal.kind == '+' ? held : wanted).addAll(literal.terms);
        }
        wanted.removeIf(term -> !isVariable(term));
        if (!held.containsAll(wanted)) {
            throw here(4);
        }
        if (rule.counted() && rule.literals.isEmpty()) {
            throw here(5);
        }
        for (Rule other : read) {
            if (other.head == rule.head && (other.counted() || rule.counted())) {
                throw here(5);
            }
        }
    }

    private void readLiteral(List<Literal> literals, TreeSet<String> variables) {
        boolean named = at("abcdefghijklmnopqrstuvwxyz");
        boolean negative = at("~");
        boolean condition = at("ABCDEFGHIJKLMNOPQRSTUVWXYZ0123456789");
        if (!named && !negative && !condition) {
            throw here(1);
        }
        long positive = literals.stream().filter(literal -> literal.kind == '+').count();
        if (literals.size() == 5 || named && positive == 3) {
            throw here(3);
        }
        if (condition) {
            String left = readTerm(variables, false);
            char kind = want("<=!");
            literals.add(new Literal(kind, ' ', List.of(left, readTerm(variables, false))));
            return;
        }
        if (negative) {
            want("~");
        }
        literals.add(readNamed(negative ? '~' : '+', variables, false));
    }

    private Literal readNamed(char kind, TreeSet<String> variables, boolean head) {
        char name = want("abcdefghijklmnopqrstuvwxyz");
        if (!names.contains(name)) {
            if (names.size() == 8) {
                next--;
                throw here(3);
            }
            names.add(name);
        }
        want("(");
        List<String> terms = new ArrayList<>();
        terms.add(readTerm(variables, head));
        while (terms.size() < 3 && !terms.contains("#") && at(",")) {
            want(",");
            terms.add(readTerm(variables, head));
        }
        want(")");
        sizes.putIfAbsent(name, terms.size());
        if (sizes.get(name) != terms.size()) {
            next--;
            throw here(2);
        }
        return new Literal(kind, name, terms);
    }

    private String readTerm(TreeSet<String> variables, boolean head) {
        if (head && at("#")) {
            return String.valueOf(want("#"));
        }
        if (at("ABCDEFGHIJKLMNOPQRSTUVWXYZ")) {
            String variable = String.valueOf(signs.get(next).sign);
            variables.add(variable);
            if (variables.size() > 6) {
                throw here(3);
            }
            next++;
            return variable;
        }
        StringBuilder number = new StringBuilder();
        number.append(want("0123456789"));
        while (number.length() < 3 && at("0123456789") && signs.get(next).place == signs.get(next - 1).place + 1) {
            number.append(want("0123456789"));
        }
        return number.toString();
    }

    private boolean at(String wanted) {
        return next < signs.size() && wanted.indexOf(signs.get(next).sign) >= 0;
    }

    private char want(String wanted) {
        if (!at(wanted)) {
            throw here(1);
        }
        return signs.get(next++).sign;
    }

    private Fault here(int kind) {
        return new Fault(kind, next < signs.size() ? signs.get(next).place : end);
    }

    private static boolean isVariable(String term) {
        return term.charAt(0) >= 'A' && term.charAt(0) <= 'Z';
    }

    // ---- layers and rings

    private boolean isView(List<Rule> read, char name) {
        return read.stream().anyMatch(rule -> rule.head == name);
    }

    private void findLayers(List<Rule> read) {
        layers = new int[names.size()];
        for (int i = 0; i < layers.length; i++) {
            layers[i] = isView(read, names.get(i)) ? 1 : 0;
        }
        boolean raised = true;
        while (raised) {
            raised = false;
            for (Rule rule : read) {
                for (Literal literal : rule.literals) {
                    if (literal.name == ' ') {
                        continue;
                    }
                    int least = layers[names.indexOf(literal.name)] + (isStrict(rule, literal) ? 1 : 0);
                    int head = names.indexOf(rule.head);
                    if (layers[head] < least) {
                        layers[head] = least;
                        raised = true;
                    }
                }
            }
            if (Arrays.stream(layers).anyMatch(layer -> layer > 20)) {
                findRing(read);
                throw new Fault(6, end);
            }
        }
    }

    private static boolean isStrict(Rule rule, Literal literal) {
        return literal.kind == '~' || rule.counted();
    }

    private void findRing(List<Rule> read) {
        for (char least : names) {
            List<Character> together = new ArrayList<>();
            for (char name : names) {
                if (leads(read, least, name) && leads(read, name, least)) {
                    together.add(name);
                }
            }
            for (Rule rule : read) {
                for (Literal literal : rule.literals) {
                    if (literal.name != ' ' && isStrict(rule, literal) && together.contains(rule.head) && together.contains(literal.name)) {
                        ring = together;
                        return;
                    }
                }
            }
        }
    }

    /** Whether a way of one step or more leads through rules from one relation to another. */
    private static boolean leads(List<Rule> read, char from, char to) {
        TreeSet<Character> seen = new TreeSet<>();
        List<Character> open = new ArrayList<>(List.of(from));
        while (!open.isEmpty()) {
            char name = open.remove(0);
            for (Rule rule : read) {
                for (Literal literal : rule.literals) {
                    if (rule.head == name && literal.name != ' ' && seen.add(literal.name)) {
                        open.add(literal.name);
                    }
                }
            }
        }
        return seen.contains(to);
    }

    // ---- views

    interface Found {
        void with(Map<String, Integer> values);
    }

    /** All values of a rule's variables that fulfil its literals. */
    private void solve(Rule rule, List<TreeMap<List<Integer>, Integer>> all, Found found) {
        List<Literal> positive = rule.literals.stream().filter(literal -> literal.kind == '+').toList();
        choose(rule, positive, 0, new TreeMap<>(), all, found);
    }

    private void choose(Rule rule, List<Literal> positive, int index, Map<String, Integer> values,
            List<TreeMap<List<Integer>, Integer>> all, Found found) {
        if (index == positive.size()) {
            if (rule.literals.stream().allMatch(literal -> holds(literal, values, all))) {
                found.with(values);
            }
            return;
        }
        Literal literal = positive.get(index);
        for (List<Integer> row : new ArrayList<>(all.get(names.indexOf(literal.name)).keySet())) {
            Map<String, Integer> more = new TreeMap<>(values);
            boolean fits = true;
            for (int i = 0; i < row.size() && fits; i++) {
                String term = literal.terms.get(i);
                if (isVariable(term)) {
                    more.putIfAbsent(term, row.get(i));
                }
                fits = valueOf(term, more) == row.get(i);
            }
            if (fits) {
                choose(rule, positive, index + 1, more, all, found);
            }
        }
    }

    private boolean holds(Literal literal, Map<String, Integer> values, List<TreeMap<List<Integer>, Integer>> all) {
        List<Integer> row = rowOf(literal.terms, values);
        return switch (literal.kind) {
            case '+' -> all.get(names.indexOf(literal.name)).containsKey(row);
            case '~' -> !all.get(names.indexOf(literal.name)).containsKey(row);
            case '<' -> row.get(0) < row.get(1);
            case '=' -> row.get(0).equals(row.get(1));
            default -> !row.get(0).equals(row.get(1));
        };
    }

    private static int valueOf(String term, Map<String, Integer> values) {
        return isVariable(term) ? values.get(term) : Integer.parseInt(term);
    }

    private static List<Integer> rowOf(List<String> terms, Map<String, Integer> values) {
        List<Integer> row = new ArrayList<>();
        terms.forEach(term -> row.add(valueOf(term, values)));
        return row;
    }

    /** Tables as given, views from nothing; null if that is FULL. */
    private List<TreeMap<List<Integer>, Integer>> work(List<TreeMap<List<Integer>, Integer>> tables) {
        List<TreeMap<List<Integer>, Integer>> all = new ArrayList<>();
        for (int i = 0; i < names.size(); i++) {
            all.add(new TreeMap<>(RISING));
            if (!isView(rules, names.get(i))) {
                all.get(i).putAll(tables.get(i));
            }
        }
        int top = Arrays.stream(layers).max().orElse(0);
        for (int layer = 1; layer <= top; layer++) {
            boolean grown = true;
            while (grown) {
                grown = false;
                for (Rule rule : rules) {
                    if (layers[names.indexOf(rule.head)] == layer) {
                        TreeMap<List<Integer>, Integer> view = all.get(names.indexOf(rule.head));
                        int size = view.size();
                        view.putAll(rule.counted() ? countRows(rule, all) : plainRows(rule, all));
                        grown = grown || view.size() > size;
                    }
                }
                if (!fits(all)) {
                    return null;
                }
            }
        }
        return fits(all) ? all : null;
    }

    private static boolean fits(List<TreeMap<List<Integer>, Integer>> all) {
        for (TreeMap<List<Integer>, Integer> relation : all) {
            for (List<Integer> row : relation.keySet()) {
                if (row.stream().anyMatch(value -> value > 999)) {
                    return false;
                }
            }
            if (relation.size() > 40) {
                return false;
            }
        }
        return true;
    }

    private TreeMap<List<Integer>, Integer> plainRows(Rule rule, List<TreeMap<List<Integer>, Integer>> all) {
        TreeMap<List<Integer>, Integer> made = new TreeMap<>(RISING);
        solve(rule, all, values -> made.put(rowOf(rule.terms, values), 1));
        return made;
    }

    private TreeMap<List<Integer>, Integer> countRows(Rule rule, List<TreeMap<List<Integer>, Integer>> all) {
        TreeMap<List<Integer>, TreeSet<String>> groups = new TreeMap<>(RISING);
        List<String> group = rule.terms.subList(0, rule.terms.size() - 1);
        solve(rule, all, values -> groups.computeIfAbsent(rowOf(group, values), key -> new TreeSet<>()).add(values.toString()));
        TreeMap<List<Integer>, Integer> made = new TreeMap<>(RISING);
        groups.forEach((key, members) -> {
            List<Integer> row = new ArrayList<>(key);
            row.add(members.size());
            made.put(row, 1);
        });
        return made;
    }

    private List<List<Integer>> derivationsOf(int view, List<Integer> row) {
        List<List<Integer>> all = new ArrayList<>();
        for (int i = 0; i < rules.size(); i++) {
            Rule rule = rules.get(i);
            int index = i;
            if (names.indexOf(rule.head) == view) {
                TreeSet<String> variables = rule.variables();
                solve(rule, rows, values -> {
                    if (rowOf(rule.terms, values).equals(row)) {
                        List<Integer> derivation = new ArrayList<>(List.of(index, variables.size()));
                        variables.forEach(variable -> derivation.add(values.get(variable)));
                        all.add(derivation);
                    }
                });
            }
        }
        all.sort(RISING);
        return all;
    }

    // ---- the face

    int place() {
        return place;
    }

    int ring(int k) {
        return k >= 0 && k < ring.size() ? ring.get(k) : NONE;
    }

    int relation(int name) {
        if (rules.isEmpty()) {
            return STATE;
        }
        for (int i = 0; i < names.size(); i++) {
            if (names.get(i) == name) {
                return i;
            }
        }
        return NONE;
    }

    private boolean isRelation(int relation) {
        return relation >= 0 && relation < names.size();
    }

    int of(int relation, int what) {
        if (rules.isEmpty()) {
            return STATE;
        }
        if (!isRelation(relation) || what < 0 || what > 4) {
            return BAD;
        }
        char name = names.get(relation);
        return switch (what) {
            case 0 -> isView(rules, name) ? 1 : 0;
            case 1 -> sizes.get(name);
            case 2 -> layers[relation];
            case 3 -> rows.get(relation).size();
            default -> leads(rules, name, name) ? 1 : 0;
        };
    }

    /** The row of a call, or null if a value is outside. */
    private List<Integer> rowOf(int relation, int a, int b, int c) {
        List<Integer> row = List.of(a, b, c).subList(0, sizes.get(names.get(relation)));
        return row.stream().allMatch(value -> value >= 0 && value <= 999) ? row : null;
    }

    int change(int table, int a, int b, int c, int sign) {
        if (rules.isEmpty()) {
            return STATE;
        }
        if (!isRelation(table) || isView(rules, names.get(table)) || Math.abs((long) sign) != 1) {
            return BAD;
        }
        List<Integer> row = rowOf(table, a, b, c);
        if (row == null) {
            return BAD;
        }
        if (batch.size() == 60) {
            return FULL;
        }
        batch.add(new Change(table, row, sign));
        return batch.size();
    }

    int batch() {
        if (rules.isEmpty()) {
            return STATE;
        }
        List<Change> changes = batch;
        batch = new ArrayList<>();
        List<TreeMap<List<Integer>, Integer>> after = new ArrayList<>();
        rows.forEach(relation -> {
            TreeMap<List<Integer>, Integer> copy = new TreeMap<>(RISING);
            copy.putAll(relation);
            after.add(copy);
        });
        changes.forEach(change -> after.get(change.table).merge(change.row, change.sign, Integer::sum));
        for (TreeMap<List<Integer>, Integer> relation : after) {
            if (relation.values().stream().anyMatch(count -> count < 0 || count > 9)) {
                return BAD;
            }
            relation.values().removeIf(count -> count == 0);
        }
        List<TreeMap<List<Integer>, Integer>> worked = work(after);
        if (worked == null) {
            return FULL;
        }
        before.add(rows);
        if (before.size() > 6) {
            before.remove(0);
        }
        return become(worked);
    }

    private int become(List<TreeMap<List<Integer>, Integer>> worked) {
        latest = new ArrayList<>();
        for (int i = 0; i < names.size(); i++) {
            if (isView(rules, names.get(i))) {
                TreeSet<List<Integer>> either = new TreeSet<>(RISING);
                either.addAll(rows.get(i).keySet());
                either.addAll(worked.get(i).keySet());
                for (List<Integer> row : either) {
                    int sign = (worked.get(i).containsKey(row) ? 1 : 0) - (rows.get(i).containsKey(row) ? 1 : 0);
                    if (sign != 0) {
                        latest.add(new Difference(i, row, sign));
                    }
                }
            }
        }
        rows = worked;
        return latest.size();
    }

    int drop() {
        if (rules.isEmpty()) {
            return STATE;
        }
        int had = batch.size();
        batch = new ArrayList<>();
        return had;
    }

    int difference(int k, int what) {
        if (rules.isEmpty()) {
            return STATE;
        }
        if (what < 0 || what > 4) {
            return BAD;
        }
        if (k < 0 || k >= latest.size()) {
            return NONE;
        }
        Difference difference = latest.get(k);
        if (what == 0 || what == 4) {
            return what == 0 ? difference.view : difference.sign;
        }
        return what <= difference.row.size() ? difference.row.get(what - 1) : 0;
    }

    int undo() {
        if (rules.isEmpty()) {
            return STATE;
        }
        return before.isEmpty() ? NONE : become(before.remove(before.size() - 1));
    }

    int has(int relation, int a, int b, int c) {
        if (rules.isEmpty()) {
            return STATE;
        }
        if (!isRelation(relation)) {
            return BAD;
        }
        List<Integer> row = rowOf(relation, a, b, c);
        return row == null ? BAD : rows.get(relation).getOrDefault(row, 0);
    }

    int row(int relation, int k, int what) {
        if (rules.isEmpty()) {
            return STATE;
        }
        if (!isRelation(relation) || what < 0 || what > 3) {
            return BAD;
        }
        if (k < 0 || k >= rows.get(relation).size()) {
            return NONE;
        }
        List<Integer> row = new ArrayList<>(rows.get(relation).keySet()).get(k);
        if (what == 3) {
            return rows.get(relation).get(row);
        }
        return what < row.size() ? row.get(what) : 0;
    }

    private boolean isCounted(int view) {
        return rules.stream().anyMatch(rule -> rule.head == names.get(view) && rule.counted());
    }

    int derivations(int view, int a, int b, int c) {
        if (rules.isEmpty()) {
            return STATE;
        }
        if (!isRelation(view) || !isView(rules, names.get(view)) || rowOf(view, a, b, c) == null) {
            return BAD;
        }
        List<Integer> row = rowOf(view, a, b, c);
        if (isCounted(view)) {
            return rows.get(view).containsKey(row) ? row.get(row.size() - 1) : 0;
        }
        return derivationsOf(view, row).size();
    }

    int why(int view, int a, int b, int c, int what) {
        if (rules.isEmpty()) {
            return STATE;
        }
        if (!isRelation(view) || !isView(rules, names.get(view)) || isCounted(view)) {
            return BAD;
        }
        if (rowOf(view, a, b, c) == null || what < 0 || what > 7) {
            return BAD;
        }
        List<List<Integer>> all = derivationsOf(view, rowOf(view, a, b, c));
        return all.isEmpty() || what >= all.get(0).size() ? NONE : all.get(0).get(what);
    }

    boolean anew() {
        return !rules.isEmpty();
    }

    int told(int what) {
        return switch (what) {
            case 0 -> rules.size();
            case 1 -> names.size();
            case 2 -> batch.size();
            case 3 -> latest.size();
            case 4 -> before.size();
            case 5 -> Arrays.stream(layers).max().orElse(0);
            default -> BAD;
        };
    }
}
