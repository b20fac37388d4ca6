import java.lang.reflect.Method;
import java.nio.file.Files;
import java.nio.file.Path;
import java.util.ArrayList;
import java.util.List;
import java.util.TreeMap;
import java.util.regex.Matcher;
import java.util.regex.Pattern;
import java.util.stream.Stream;

/**
 * The document from its first line to its last: "What it is" clause by clause, the face as it stands there, the
 * headings of the interface; and that no words of it, up to "Not promised", are left without a test that quotes them.
 */
public final class DocumentTest {
    private static final Path DOCUMENT = Path.of("../shared/DOC.md");
    private static final Path PROGRAM = Path.of("src/main/java/SyntaxRules.java");
    private static final Path TESTS = Path.of("src/test/java");
    private static final int OUTSIDE = 0;
    private static final int INSIDE = 1;
    private static final int NONE = SyntaxRules.NONE;

    public static void main(String[] args) throws Exception {
        keptByteForByte();
        patternAndPut();
        holesByKind();
        waysAndTheFirst();
        sharedTests();
        walks();
        rewritten();
        roundByRound();
        undoneAndKept();
        twoObjects();
        if (Files.exists(DOCUMENT)) {
            String words = Files.readString(DOCUMENT);
            face(words);
            headings(words);
            everyWordIsQuoted(words);
        } else {
            System.out.println("DocumentTest: there is no " + DOCUMENT + " here, its words were not looked up");
        }
        Desk.close("DocumentTest");
    }

    private static void says(String sentence) {
        Desk.says("What it is", sentence);
    }

    private static void due(String what, Object got, Object want) {
        Desk.due(what, got, want);
    }

    private static void keptByteForByte() {
        says("Rules over syntax: a text of terms with comments and blanks kept byte for byte;");
        String text = "\n  [a  (]( [b] f\n\nx [c\nd]( g 01 [] ) 7x )[~]  ";
        Desk d = Desk.with(text, "z = y");
        due("as it was typed", d.text(), text);
        due("no EDIT", d.x.apply(OUTSIDE), 0);
        d.x.keep(0);
        d.source("b");
        due("back", d.x.undo() + d.text(), "1" + text);
        d.source("c");
        due("kept", d.x.again(0) + d.text(), "true" + text);
        d.rule("7 = 8");
        d.x.apply(INSIDE);
        due("all but the EDIT", d.text(), text.replace('7', '8'));
    }

    private static void patternAndPut() {
        says("rules of a pattern and what comes in its place,");
        Desk d = Desk.with("(f a (g a) b)", "a = (h 1)", "(g _) = c");
        due("EDITS", d.x.apply(OUTSIDE), 2);
        due("in their place", d.text(), "(f (h 1) c b)");
    }

    private static void holesByKind() {
        says("holes for one part by kind, for rows of parts, for something at any depth, the same hole twice alike;");
        Desk d = Desk.with("(f 1 a (g))", "?A:n = x", "?A:w = x", "?A:c = x", "(f *R) = x", "(f ?A *R) = x", "^ (g) = x", "^ 2 = x");
        due("c at the top, rows, any depth", d.x.rulesOf(0), 4 + 8 + 16 + 32);
        due("n", d.x.rulesOf(1), 1);
        due("w", d.x.rulesOf(2), 2);
        due("c, any depth", d.x.rulesOf(3), 4 + 32);
        due("a row of all", d.x.held(3, 0, 17, 1), 3);
        due("a row of the rest", d.x.held(4, 0, 17, 1), 2);
        Desk twice = Desk.with("(h (f (g a 01) (g[x]a  01)) (f (g a 1) (g a 01)))", "(f ?A ?A) = ?A");
        due("alike", twice.x.rulesOf(1), 1);
        due("not alike", twice.x.rulesOf(8), 0);
    }

    private static void waysAndTheFirst() {
        says("all ways in which a pattern fits, the first of them;");
        Desk d = Desk.with("(f (g 1) 2 (g 3))", "(f *A ?B *C) = (h ?B)", "(f *A (g ?N:n) *C) = ?N", "^ ?N:n = ?N");
        due("one of three", d.x.ways(0, 0), 3);
        due("a g of two", d.x.ways(1, 0), 2);
        due("a NUMBER of three", d.x.ways(2, 0), 3);
        due("the first", d.comes(OUTSIDE, 0), "(h (g 1))");
        due("the first NUMBER", d.x.held(2, 0, 13, 0), 2);
        due("none", d.x.ways(0, 1), 0);
    }

    private static void sharedTests() {
        says("tests that rules share;");
        Desk d = Desk.with("(f a 1)", "(f a ?A:n) = x", "(f a 2) = x", "(g a 2) = x");
        due("of all", d.x.tests(0), 4 + 4 + 4);
        due("shared", d.x.tests(1), 4 + 1 + 4);
        due("asked of (f a 1)", d.x.asked(0), 2 + 1 + 1 + 2);
        due("asked of a", d.x.asked(1), 2);
    }

    private static void walks() {
        says("many rules in one walk from outside or from inside, which places come into each other's way;");
        Desk d = Desk.with("(f (f a) b)", "(f *A) = q", "a = 1", "b = 2");
        due("from outside", d.x.edit(OUTSIDE, NONE, 0), 1);
        due("its NODE", d.x.edit(OUTSIDE, 0, 1), 0);
        due("NODES in the way", d.x.conflicts(OUTSIDE, 0), 3);
        due("RULES in the way", d.x.conflicts(OUTSIDE, 2), 2 + 4);
        due("from inside", d.x.edit(INSIDE, NONE, 0), 2);
        due("their NODES", d.x.edit(INSIDE, 0, 1) * 10 + d.x.edit(INSIDE, 1, 1), 23);
        due("NODES in the way", d.x.conflicts(INSIDE, 0), 2);
        due("RULES in the way", d.x.conflicts(INSIDE, 2), 1);
    }

    private static void rewritten() {
        says("what is rewritten with the text of holes as it was, comments carried along;");
        Desk d = Desk.with("(k(f  (g[x]  1)[y] 2 )b)", "(f ?A ?B) = (h ?B ?A)");
        due("comes", d.comes(OUTSIDE, 0), "[y] (h 2 (g[x]  1))");
        due("carried", d.x.edit(OUTSIDE, 0, 3), 1);
        due("applied", d.x.apply(OUTSIDE) + d.text(), "1(k[y] (h 2 (g[x]  1))b)");
    }

    private static void roundByRound() {
        says("round by round till nothing fits;");
        Desk d = Desk.with("(plus (s (s z)) (s z))", "(plus z ?N) = ?N", "(plus (s ?M) ?N) = (plus ?M (s ?N))");
        due("on paper", d.x.after(OUTSIDE, 6, 0), "(s (s (s z)))".length());
        due("EDITS then", d.x.after(OUTSIDE, 6, 1), 0);
        due("rounds", d.x.rounds(OUTSIDE, 6), 3);
        due("text", d.text(), "(s (s (s z)))");
        due("nothing fits", d.x.rounds(OUTSIDE, 6), 0);
        due("one step", d.x.undo() + d.text(), "1(plus (s (s z)) (s z))");
    }

    private static void undoneAndKept() {
        says("undone, kept.");
        Desk d = Desk.with("(f a)", "a = b");
        d.x.keep(1);
        d.x.apply(OUTSIDE);
        d.x.drop(0);
        due("undone", d.x.undo() + d.text(), "1(f a)");
        due("a RULE is not", d.x.count(3), 0);
        due("kept", d.x.again(1) + d.text() + d.x.count(3), "true(f a)1");
    }

    /** No object knows of another: the same calls between those of another one answer the same. */
    private static void twoObjects() {
        Desk.promise = "two objects";
        Desk a = new Desk();
        Desk b = new Desk();
        a.type("(f a");
        b.type("(g 1 2)");
        due("NODES of the one", b.x.source(), 3);
        a.type(" b c)");
        due("NODES of the other", a.x.source(), 4);
        due("RULE of the one", a.rule("a = b"), 0);
        due("no RULE of the other", b.x.count(3), 0);
        due("RULE of the other", b.rule("?N:n = (n ?N)"), 0);
        a.x.keep(0);
        due("nothing kept of the other", b.x.again(0), false);
        due("EDITS of the one", a.x.apply(OUTSIDE), 1);
        due("EDITS of the other", b.x.apply(INSIDE), 2);
        due("texts", a.text() + b.text(), "(f b b c)(g (n 1) (n 2))");
        due("undone", a.x.undo() + a.text() + b.text(), "1(f a b c)(g (n 1) (n 2))");
    }

    /** The lines of the face, and those that the promises begin with, against what the class has. */
    private static void face(String words) {
        Desk.promise = "the public face";
        TreeMap<String, String> has = new TreeMap<>();
        for (Method m : SyntaxRules.class.getDeclaredMethods()) {
            has.put(m.getName(), told(m));
        }
        Matcher line = Pattern.compile("(?m)^    public (\\w+ (\\w+)\\(.*);$").matcher(words);
        List<String> faceLines = new ArrayList<>();
        while (line.find()) {
            faceLines.add(line.group(1));
            due(line.group(2), String.valueOf(has.get(line.group(2))), withoutNames(line.group(1)));
        }
        due("methods of the face", faceLines.size(), 29);
        Matcher promise = Pattern.compile("(?m)^## Promise (\\d+): .*\n\n`(.*)`: ").matcher(words);
        int last = 0;
        while (promise.find()) {
            last++;
            due("number", promise.group(1), "" + last);
            due("promise " + last, promise.group(2), last == 1 ? "SyntaxRules()" : faceLines.get(last - 2));
        }
        due("promises", last, 30);
        due("the constant", words.contains("public static final int NONE = " + SyntaxRules.NONE + ";"), true);
    }

    private static String told(Method m) {
        StringBuilder s = new StringBuilder(m.getReturnType() + " " + m.getName() + "(");
        for (int i = 0; i < m.getParameterCount(); i++) {
            s.append(i == 0 ? "" : ", ").append(m.getParameterTypes()[i]);
        }
        s.append(")");
        for (Class<?> thrown : m.getExceptionTypes()) {
            s.append(" throws ").append(thrown.getSimpleName());
        }
        return s.toString();
    }

    private static String withoutNames(String line) {
        return line.replaceAll("(\\(|, )(\\w+) \\w+", "$1$2");
    }

    /** Ahead of which calls the interface says what: the program's file has them in that order. */
    private static void headings(String words) throws Exception {
        Desk.promise = "the interface";
        String program = Files.readString(PROGRAM);
        Matcher heading = Pattern.compile("Ahead of the calls (.*) the interface says: (---- .*)\\.").matcher(words);
        int headings = 0;
        while (heading.find()) {
            headings++;
            int at = program.indexOf("// " + heading.group(2) + "\n");
            due(heading.group(2), at > 0, true);
            for (String call : heading.group(1).split(", ")) {
                int next = program.indexOf(" " + call.replace("`", "") + "(", program.indexOf("public ", at));
                due(call + " is next", next, afterType(program, at));
                at = next;
            }
        }
        due("headings", headings, 4);
    }

    /** Where the name of the next public method stands, with the blank ahead of it. */
    private static int afterType(String program, int at) {
        return program.indexOf(' ', program.indexOf("public ", at) + "public ".length());
    }

    /** What is left of the document without quotations, signatures and headings has no letter and no digit. */
    private static void everyWordIsQuoted(String words) throws Exception {
        Desk.promise = "every word is quoted";
        StringBuilder left = new StringBuilder(words.substring(0, words.indexOf("## Not promised")));
        blank(left, "(?m)^#.*$");
        blank(left, "(?s)```java.*?```");
        blank(left, "(?m)^```(text)?$");
        blank(left, "(?m)^Ahead of the calls .*$");
        blank(left, "(?m)^`[^`]*`: ");
        blank(left, "(?m)^\\d\\. ");
        List<String> quotations = quotations();
        due("there are quotations", quotations.size() > 100, true);
        for (String q : quotations) {
            for (int i = words.indexOf(q); i >= 0 && i < left.length(); i = words.indexOf(q, i + 1)) {
                blank(left, i, Math.min(left.length(), i + q.length()));
            }
        }
        Matcher word = Pattern.compile("[A-Za-z0-9][^\n]{0,60}").matcher(left);
        while (word.find()) {
            due("words that no test quotes", word.group(), "");
        }
    }

    private static void blank(StringBuilder text, String pattern) {
        Matcher m = Pattern.compile(pattern).matcher(text.toString());
        while (m.find()) {
            blank(text, m.start(), m.end());
        }
    }

    private static void blank(StringBuilder text, int from, int behind) {
        for (int i = from; i < behind; i++) {
            if (text.charAt(i) != '\n') {
                text.setCharAt(i, ' ');
            }
        }
    }

    private static List<String> quotations() throws Exception {
        List<String> list = new ArrayList<>();
        Pattern call = Pattern.compile("says\\((?:\"[^\"]*\", |\\d+, )?\"((?:[^\"\\\\]|\\\\.)*)\"\\);");
        try (Stream<Path> files = Files.list(TESTS)) {
            for (Path file : files.sorted().toArray(Path[]::new)) {
                Matcher m = call.matcher(Files.readString(file));
                while (m.find()) {
                    list.add(m.group(1).replace("\\\"", "\""));
                }
            }
        }
        return list;
    }
}
