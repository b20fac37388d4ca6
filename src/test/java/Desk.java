import java.io.IOException;
import java.nio.file.Files;
import java.nio.file.Path;
import java.util.NoSuchElementException;

/** A SyntaxRules object with texts typed in at one go, and the count of answers that were not as due. */
final class Desk {
    static final int MIN = Integer.MIN_VALUE;
    static final int MAX = Integer.MAX_VALUE;
    /** Numbers beside all that may be a number of something, as far as an int goes. */
    static final int[] FAR = {MIN, MIN + 1, -65536, -1000, -256, -3, -2, 256, 300, 512, 65536, 1 << 30, MAX - 1, MAX};

    private static final Path DOCUMENT = Path.of("../shared/DOC.md");
    private static final String WORDS = readDocument();

    static int wrong;
    static String promise = "";

    final SyntaxRules x = new SyntaxRules();

    private static String readDocument() {
        try {
            return Files.exists(DOCUMENT) ? Files.readString(DOCUMENT) : "";
        } catch (IOException e) {
            return "";
        }
    }

    /** The sentence that the tests behind this are of: it must stand there in the document, word for word. */
    static void says(String where, String sentence) {
        promise = where + " says \"" + sentence + "\"";
        if (!WORDS.isEmpty()) {
            due("the document has these words", sectionOf(where).contains(sentence), true);
        }
    }

    private static String sectionOf(String where) {
        int begin = WORDS.indexOf(where.startsWith("Promise") ? "## " + where + ":" : "## " + where.split(" ")[0]);
        int end = begin < 0 ? -1 : WORDS.indexOf("\n## ", begin);
        return begin < 0 ? "" : WORDS.substring(begin, end < 0 ? WORDS.length() : end);
    }

    /** Types a text, blanks up to a multiple of four cut off again. */
    Desk type(String text) {
        int before = x.count(4);
        for (int i = 0; i < text.length(); i += 4) {
            int v = 0;
            for (int k = i; k < i + 4; k++) {
                v = v << 8 | (k < text.length() ? text.charAt(k) : ' ');
            }
            x.sign(v);
        }
        x.end(before + text.length());
        return this;
    }

    int source(String text) {
        type(text);
        return x.source();
    }

    int rule(String text) {
        type(text);
        return x.rule();
    }

    String text() {
        StringBuilder s = new StringBuilder();
        int length = x.count(1);
        for (int i = 0; i < length; i++) {
            s.append((char) x.letter(i));
        }
        return s.toString();
    }

    String comes(int way, int edit) {
        StringBuilder s = new StringBuilder();
        int length = x.edit(way, edit, 2);
        for (int k = 0; k < length; k++) {
            s.append((char) x.comes(way, edit, k));
        }
        return s.toString();
    }

    String name(int node) {
        StringBuilder s = new StringBuilder();
        for (int i = 0; x.name(node, i) != -1; i++) {
            s.append((char) x.name(node, i));
        }
        return s.toString();
    }

    /** The text of a NODE's PLACE. */
    String place(int node) {
        int begin = x.node(node, 4);
        return text().substring(begin, begin + x.node(node, 5));
    }

    /** What there is, all but THE TEXT: the SOURCE, the RULES, what can be had back. */
    String state() {
        StringBuilder s = new StringBuilder(text());
        for (int what = 0; what <= 6; what++) {
            s.append(what == 4 ? "" : " " + x.count(what));
        }
        for (int rule = 0; rule < 8; rule++) {
            s.append(" |");
            for (int what = 0; what < 5; what++) {
                s.append(' ').append(x.told(rule, what));
            }
            s.append(' ').append(x.found(rule, -1));
        }
        return s.toString();
    }

    boolean throwsNoSuchElement(int node, int what) {
        try {
            x.node(node, what);
            return false;
        } catch (NoSuchElementException e) {
            return true;
        }
    }

    /** A Desk with this SOURCE and these RULES; each must be taken. */
    static Desk with(String source, String... rules) {
        Desk d = new Desk();
        due("source " + source, d.source(source) > 0, true);
        for (String r : rules) {
            due("rule " + r, d.rule(r) >= 0, true);
        }
        return d;
    }

    static void due(String what, Object got, Object want) {
        if (!got.equals(want)) {
            wrong++;
            System.out.println(promise + ": " + what + " answered " + got + ", due is " + want);
        }
    }

    static String many(String part, int n) {
        StringBuilder s = new StringBuilder();
        for (int i = 0; i < n; i++) {
            s.append(part);
        }
        return s.toString();
    }

    static void close(String name) {
        System.out.println(wrong == 0 ? name + ": all answers are as due" : name + ": " + wrong + " answers are not as due");
        if (wrong != 0) {
            System.exit(1);
        }
    }
}
