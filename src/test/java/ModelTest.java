import java.util.NoSuchElementException;
import java.util.Random;

/** Runs of random calls, each answered by the program and by the Model: they must agree. */
public final class ModelTest {
    private static final int[] EXTREMES = {Integer.MIN_VALUE, -1001, -2, -1, 8, 26, 300, Integer.MAX_VALUE};

    private final Random random;
    private final SyntaxRules program = new SyntaxRules();
    private final Model model = new Model();
    private final StringBuilder log = new StringBuilder();
    /** Whether this run has SOURCES and RULES about as large as they may be. */
    private final boolean atBounds;
    private int calls;
    private boolean wrong;

    private ModelTest(long seed) {
        random = new Random(seed);
        atBounds = chance(35);
    }

    public static void main(String[] args) {
        int runs = args.length > 0 ? Integer.parseInt(args[0]) : 1500;
        int first = args.length > 1 ? Integer.parseInt(args[1]) : 0;
        int wrongRuns = 0;
        long calls = 0;
        int[] kinds = new int[4];
        for (int seed = first; seed < first + runs && wrongRuns < 5; seed++) {
            ModelTest test = new ModelTest(seed);
            test.run();
            calls += test.calls;
            kinds[0] += test.applied;
            kinds[1] += test.refused;
            kinds[2] += test.manyWays;
            kinds[3] += test.faults;
            if (test.wrong) {
                wrongRuns++;
                System.out.println("seed " + seed + ":\n" + test.log);
            }
        }
        System.out.println(calls + " calls; applied " + kinds[0] + ", can't be " + kinds[1] + ", more than one way "
            + kinds[2] + ", faults " + kinds[3]);
        if (wrongRuns > 0 || kinds[0] == 0 || kinds[1] == 0 || kinds[2] == 0 || kinds[3] == 0) {
            System.exit(1);
        }
    }

    private int applied;
    private int refused;
    private int manyWays;
    private int faults;

    private int pick(int n) {
        return random.nextInt(n);
    }

    private boolean chance(int percent) {
        return pick(100) < percent;
    }

    private void check(String call, long got, long want) {
        calls++;
        log.append(call).append(" = ").append(got).append('\n');
        if (got != want) {
            log.append("   WRONG, the model has ").append(want).append('\n');
            wrong = true;
        }
    }

    private void run() {
        enterSource();
        for (int i = pick(5); i >= 0; i--) {
            enterRule();
        }
        while (calls < 480 && !wrong) {
            int which = pick(100);
            if (which < 2) {
                enterSource();
            } else if (which < 9) {
                enterRule();
            } else {
                oneCall();
            }
        }
    }

    private void type(String text) {
        String cut = text.length() > 300 ? text.substring(0, 300) : text;
        log.append("type ").append(cut.replace("\n", "\\n")).append('\n');
        String full = cut;
        while (full.length() % 4 != 0) {
            full += (char) pick(256);
        }
        if (chance(3)) {
            check("end", program.end(0) ? 1 : 0, model.end(0) ? 1 : 0);
        }
        int before = model.typed.length();
        for (int i = 0; i < full.length(); i += 4) {
            int v = full.charAt(i) << 24 | full.charAt(i + 1) << 16 | full.charAt(i + 2) << 8 | full.charAt(i + 3);
            check("sign", program.sign(v), model.sign(v));
        }
        int n = before + cut.length();
        check("end " + n, program.end(n) ? 1 : 0, model.end(n) ? 1 : 0);
    }

    private void enterSource() {
        nodesLeft = atBounds ? 40 + pick(25) : 1 + pick(chance(20) ? 75 : chance(50) ? 30 : 8);
        dense = chance(atBounds ? 80 : 40);
        String text = layout() + (atBounds && chance(30) ? deepTerm() : term(0)) + layout();
        text = atBounds && chance(50) ? pad(text) : text;
        type(chance(15) ? spoil(text) : text);
        int got = program.source();
        faults += got <= -1000 ? 1 : 0;
        check("source", got, model.source());
    }

    private void enterRule() {
        String text = patternText();
        type(chance(15) ? spoil(text) : text);
        int got = program.rule();
        faults += got <= -1000 ? 1 : 0;
        check("rule", got, model.rule());
        if (chance(60) && got == -3) {
            int r = pick(8);
            check("drop " + r, program.drop(r), model.drop(r));
        }
    }

    private String spoil(String text) {
        int at = pick(text.length() + 1);
        String signs = "()_^=?*:[]aB1 \nnwc_ABC\u00e9\u007f";
        char sign = signs.charAt(pick(signs.length()));
        switch (pick(4)) {
            case 0: return text.substring(0, at) + sign + text.substring(at);
            case 1: return text.substring(0, at);
            case 2: return at == text.length() ? text : text.substring(0, at) + text.substring(at + 1);
            default: return at == text.length() ? text : text.substring(0, at) + sign + text.substring(at + 1);
        }
    }

    /** Up to 300 signs, or a few less, by a COMMENT ahead. */
    private String pad(String text) {
        int room = 300 - pick(8) - text.length();
        return room < 2 ? text : "[" + "x".repeat(room - 2) + "]" + text;
    }

    /** About as many ( within one another as there may be. */
    private String deepTerm() {
        int open = 13 + pick(4);
        StringBuilder s = new StringBuilder();
        for (int i = 0; i < open; i++) {
            s.append('(').append(word()).append(chance(20) ? " a" : "");
        }
        nodesLeft = 1 + pick(20);
        return s.append(' ').append(term(open)).append(")".repeat(open)).toString();
    }

    private int nodesLeft;
    private boolean dense;

    private String layout() {
        if (dense && chance(80)) {
            return "";
        }
        switch (pick(dense ? 2 : 7)) {
            case 0: return "";
            case 5: return "\n ";
            case 6: return comment();
            default: return " ";
        }
    }

    private String comment() {
        switch (pick(5)) {
            case 0: return "[]";
            case 1: return " [x\ny] ";
            case 2: return "[(a[]";
            case 3: return "[z][y]";
            default: return "[c]";
        }
    }

    private String word() {
        String[] words = {"a", "b", "f", "g", "f", "abcdefgh"};
        return words[pick(dense ? 5 : 6)];
    }

    private String number() {
        String[] numbers = {"1", "01", "2", "1234"};
        return numbers[pick(4)];
    }

    private String term(int depth) {
        nodesLeft--;
        if (nodesLeft <= 0 || depth > 17 || chance(depth == 0 ? 5 : atBounds ? 65 : 40)) {
            return chance(60) ? word() : number();
        }
        StringBuilder s = new StringBuilder("(").append(chance(10) ? layout() : "").append(word());
        int parts = chance(atBounds ? 60 : 8) ? 11 + (chance(90) ? pick(2) : 2) : chance(20) ? pick(8) : pick(4);
        for (int i = 0; i < parts && nodesLeft > 0; i++) {
            String between = layout();
            String next = term(depth + 1);
            char last = s.charAt(s.length() - 1);
            boolean clash = between.isEmpty() && Character.isLetterOrDigit(last)
                && Character.isLetterOrDigit(next.charAt(0)) && Character.isLetter(last) == Character.isLetter(next.charAt(0));
            s.append(clash ? " " : between).append(next);
        }
        return s.append(layout()).append(")").toString();
    }

    private int itemsLeft;
    private int rowsLeft;
    private int deepsLeft;
    private String ones;
    private String rows;

    private String gap() {
        return chance(85) ? " " : chance(50) ? "" : "  ";
    }

    private String patternText() {
        itemsLeft = chance(10) ? 22 : 1 + pick(9);
        rowsLeft = chance(3) ? 3 : pick(3);
        deepsLeft = chance(3) ? 2 : pick(2);
        ones = "";
        rows = "";
        Model.Term node = model.src.nodes.get(pick(model.src.nodes.size()));
        String left = chance(20) ? rowsAbout(node) : chance(60) ? patternOf(node) : pattern(0);
        itemsLeft = chance(10) ? 22 : 1 + pick(7);
        return gap() + left + gap() + "=" + gap() + put(0) + gap();
    }

    /** Two rows, and what may stand between them: a PATTERN that FITS in many WAYS. */
    private String rowsAbout(Model.Term node) {
        Model.Term t = node.kind == 'c' || node.parent == null ? node : node.parent;
        itemsLeft = 5;
        rowsLeft = 0;
        rows = chance(20) ? "QQ" : "QR";
        String deep = chance(30) ? "^" : "";
        deepsLeft = deep.isEmpty() ? deepsLeft : 0;
        boolean hasOne = !t.parts.isEmpty() && chance(60);
        String one = hasOne ? patternOf(t.parts.get(pick(t.parts.size()))) : "";
        return deep + "(" + (t.kind == 'c' ? t.name : "f") + " *Q " + one + " *" + rows.charAt(1) + (chance(20) ? " _" : "") + ")";
    }

    private String hole() {
        char l = (char) ('A' + pick(4));
        ones += l;
        return "?" + l + (chance(30) ? ":" + "nwc".charAt(pick(3)) : " ");
    }

    private String pattern(int depth) {
        itemsLeft--;
        int which = pick(20);
        if (deepsLeft > 0 && which < 3) {
            deepsLeft--;
            return "^" + gap() + pattern(depth);
        }
        if (itemsLeft > 0 && which < (depth == 0 ? 16 : 9)) {
            StringBuilder s = new StringBuilder("(").append(gap()).append(word());
            int parts = itemsLeft > 15 ? 20 : pick(5);
            for (int i = 0; i < parts && itemsLeft > 0; i++) {
                s.append(' ');
                if (rowsLeft > 0 && chance(30)) {
                    rowsLeft--;
                    itemsLeft--;
                    char l = (char) ((chance(3) ? 'A' : 'Q') + pick(2));
                    rows += l;
                    s.append('*').append(l);
                } else {
                    s.append(pattern(depth + 1));
                }
            }
            return s.append(gap()).append(")").toString();
        }
        if (which < 11) {
            return word() + " ";
        }
        if (which < 13) {
            return number() + " ";
        }
        return which < 15 ? "_" : hole();
    }

    /** A PATTERN that is likely to FIT this NODE. */
    private String patternOf(Model.Term t) {
        itemsLeft--;
        if (deepsLeft > 0 && chance(20)) {
            deepsLeft--;
            return "^" + gap() + patternOf(t.all.get(pick(t.all.size())));
        }
        if (t.kind != 'c' || t.parent != null && chance(40)) {
            if (t.kind != 'c' && chance(40)) {
                return t.name + " ";
            }
            if (chance(20)) {
                return "_";
            }
            char l = (char) ('A' + (chance(80) ? model.twins(t.number, 1) % 5 : pick(5)));
            ones += l;
            return "?" + l + (chance(30) ? ":" + t.kind : " ");
        }
        StringBuilder s = new StringBuilder("(").append(gap()).append(t.name);
        for (int i = 0; i < t.parts.size();) {
            s.append(' ');
            if (rowsLeft > 0 && chance(40)) {
                rowsLeft--;
                itemsLeft--;
                char l = (char) ('Q' + pick(3));
                rows += l;
                s.append('*').append(l);
                i += pick(4);
            } else {
                s.append(patternOf(t.parts.get(i)));
                i++;
            }
        }
        if (rowsLeft > 0 && chance(30)) {
            rowsLeft--;
            rows += 'R';
            s.append(" *R");
        }
        return s.append(gap()).append(")").toString();
    }

    private String put(int depth) {
        itemsLeft--;
        if (itemsLeft > 0 && chance(55)) {
            StringBuilder s = new StringBuilder("(").append(word());
            int parts = itemsLeft > 15 ? 20 : pick(5);
            for (int i = 0; i < parts && itemsLeft > 0; i++) {
                s.append(' ');
                if (!rows.isEmpty() && chance(40)) {
                    itemsLeft--;
                    s.append('*').append(rows.charAt(pick(rows.length())));
                } else {
                    s.append(put(depth + 1));
                }
            }
            return s.append(gap()).append(")").toString();
        }
        if (!ones.isEmpty() && chance(60)) {
            return "?" + (chance(2) ? 'Z' : ones.charAt(pick(ones.length())));
        }
        return (chance(70) ? word() : number()) + " ";
    }

    private int near(int n) {
        return chance(6) ? EXTREMES[pick(EXTREMES.length)] : pick(n + 2) - 1;
    }

    private int someNode() {
        return chance(5) ? near(60) : pick(model.src.nodes.size());
    }

    private int someRule() {
        return near(8);
    }

    /** A NODE that some RULE FITS, if there is one. */
    private int likelyNode() {
        int from = pick(model.src.nodes.size());
        for (int i = 0; i < model.src.nodes.size(); i++) {
            int n = (from + i) % model.src.nodes.size();
            if (model.rulesOf(n) != 0) {
                return n;
            }
        }
        return from;
    }

    private int someWay() {
        return chance(5) ? near(2) : pick(2);
    }

    private void oneCall() {
        switch (pick(26)) {
            case 0: checkNode(someNode(), near(8)); break;
            case 1: { int n = someNode(), i = near(8); check("name " + n + " " + i, program.name(n, i), model.name(n, i)); break; }
            case 2: { int n = near(model.src.comments.size()), i = near(3);
                check("comment " + n + " " + i, program.comment(n, i), model.comment(n, i)); break; }
            case 3: { int i = near(model.src.text.length()); check("letter " + i, program.letter(i), model.letter(i)); break; }
            case 4: { int a = someNode(), b = someNode(); check("alike " + a + " " + b, program.alike(a, b), model.alike(a, b)); break; }
            case 5: { int n = someNode(), i = near(2); check("twins " + n + " " + i, program.twins(n, i), model.twins(n, i)); break; }
            case 6: { int r = someRule(), i = near(5); check("told " + r + " " + i, program.told(r, i), model.told(r, i)); break; }
            case 7: case 8: checkWays(pick(8), someNode()); checkWays(someRule(), likelyNode()); break;
            case 9: case 10: checkHeld(pick(8), likelyNode()); checkHeld(someRule(), someNode()); break;
            case 11: { int r = someRule(), i = near(6); check("found " + r + " " + i, program.found(r, i), model.found(r, i)); break; }
            case 12: { int n = someNode(); check("rulesOf " + n, program.rulesOf(n), model.rulesOf(n)); break; }
            case 13: { int i = near(2); check("tests " + i, program.tests(i), model.tests(i)); break; }
            case 14: { int n = someNode(); check("asked " + n, program.asked(n), model.asked(n)); break; }
            case 15: case 16: { int w = someWay(), i = near(6), k = near(4);
                check("edit " + w + " " + i + " " + k, program.edit(w, i, k), model.edit(w, i, k)); break; }
            case 17: { int w = someWay(), i = near(4), k = chance(10) ? pick(1000) : near(20);
                check("comes " + w + " " + i + " " + k, program.comes(w, i, k), model.comes(w, i, k)); break; }
            case 18: { int w = someWay(), i = near(3); check("conflicts " + w + " " + i, program.conflicts(w, i), model.conflicts(w, i)); break; }
            case 19: { int w = someWay(), i = near(3); check("would " + w + " " + i, program.would(w, i), model.would(w, i)); break; }
            case 20: checkApply(someWay()); break;
            case 21: { int w = someWay(), n = near(7); check("rounds " + w + " " + n, program.rounds(w, n), model.rounds(w, n)); checkText(); break; }
            case 22: { int w = someWay(), n = near(7), i = near(3);
                check("after " + w + " " + n + " " + i, program.after(w, n, i), model.after(w, n, i)); checkText(); break; }
            case 23: checkBack(); break;
            case 24: { int r = someRule(); if (chance(30)) { check("drop " + r, program.drop(r), model.drop(r)); } break; }
            default: { int i = near(7); check("count " + i, program.count(i), model.count(i)); break; }
        }
    }

    private void checkNode(int node, int what) {
        int thrown = 0;
        int got = 0;
        try {
            got = program.node(node, what);
        } catch (NoSuchElementException e) {
            thrown = 1;
        }
        check("node throws " + node, thrown, model.isNode(node) ? 0 : 1);
        if (thrown == 0) {
            check("node " + node + " " + what, got, model.node(node, what));
        }
    }

    private void checkWays(int rule, int node) {
        int got = program.ways(rule, node);
        manyWays += got > 1 ? 1 : 0;
        check("ways " + rule + " " + node, got, model.ways(rule, node));
    }

    private void checkHeld(int rule, int node) {
        int l = chance(5) ? near(26) : chance(50) ? pick(4) : 16 + pick(2);
        int i = near(2);
        check("held " + rule + " " + node + " " + l + " " + i, program.held(rule, node, l, i), model.held(rule, node, l, i));
    }

    private void checkApply(int way) {
        int got = program.apply(way);
        applied += got > 0 ? 1 : 0;
        refused += got == -3 ? 1 : 0;
        check("apply " + way, got, model.apply(way));
        checkText();
    }

    private void checkBack() {
        int k = chance(10) ? near(2) : pick(2);
        switch (pick(5)) {
            case 0: check("keep " + k, program.keep(k) ? 1 : 0, model.keep(k) ? 1 : 0); break;
            case 1: check("again " + k, program.again(k) ? 1 : 0, model.again(k) ? 1 : 0); break;
            default: check("undo", program.undo(), model.undo());
        }
        checkText();
    }

    /** Sign by sign; not counted as calls, so that the runs stay full of others. */
    private void checkText() {
        StringBuilder got = new StringBuilder();
        for (int i = 0; program.letter(i) != -1 && i < 400; i++) {
            got.append((char) program.letter(i));
        }
        log.append("   text ").append(got.toString().replace("\n", "\\n")).append('\n');
        if (!got.toString().equals(model.src.text)) {
            log.append("   WRONG, the model has ").append(model.src.text).append('\n');
            wrong = true;
        }
    }
}
