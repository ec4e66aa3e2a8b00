/** Counts the answers that are not as due, and ends with exit code 1 if there was one. */
final class Check {
    private int seen;
    private int wrong;
    private String sentence = "";

    /** The words of the document that the answers from here on are about. */
    void says(String words) {
        sentence = "\"" + words + "\": ";
    }

    void same(String call, long got, long due) {
        seen++;
        if (got != due) {
            wrong++;
            System.out.println(sentence + call + " answered " + got + ", due is " + due);
        }
    }

    void holds(String what, boolean held) {
        same(what, held ? 1 : 0, 1);
    }

    /** Two looks, of which only the first line that differs is worth telling. */
    void alike(String what, String got, String due) {
        String[] gotLines = got.split("\n");
        String[] dueLines = due.split("\n");
        int at = 0;
        while (at < gotLines.length && at < dueLines.length && gotLines[at].equals(dueLines[at])) {
            at++;
        }
        String gotLine = at < gotLines.length ? gotLines[at] : "nothing";
        String dueLine = at < dueLines.length ? dueLines[at] : "nothing";
        holds(what + ": seen is " + gotLine + ", to be seen is " + dueLine + "; alike", got.equals(due));
    }

    boolean isClean() {
        return wrong == 0;
    }

    void finish() {
        System.out.println(seen + " answers seen, " + wrong + " not as due");
        if (seen == 0 || wrong != 0) {
            System.exit(1);
        }
    }

    /** Feeds a whole text, whose signs are bytes. */
    static int feed(ViewRounds views, String text) {
        int answer = 0;
        for (int from = 0; from < text.length(); from += 8) {
            int n = Math.min(8, text.length() - from);
            long bytes = 0;
            for (int i = n - 1; i >= 0; i--) {
                bytes = bytes << 8 | text.charAt(from + i) & 255;
            }
            answer = views.feed(bytes, n);
        }
        return answer;
    }

    static int parse(ViewRounds views, String text) {
        feed(views, text);
        return views.parse();
    }
}
