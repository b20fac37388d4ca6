/** Promises 1 to 30: each sentence that names a bound, or what is refused, with numbers as far as an int goes. */
public final class BoundsOfPromisesTest {
    private static final int MIN = Desk.MIN;
    private static final int MAX = Desk.MAX;
    private static final int NONE = -1;
    private static final boolean[] named = new boolean[31];
    /** A SOURCE of 60 NODES, 54 of them a. */
    private static final String SIXTY = "(f" + Desk.many("(g" + Desk.many(" a", 11) + ")", 4) + "(h" + Desk.many(" a", 10) + "))";

    public static void main(String[] args) {
        newObject();
        sign();
        end();
        source();
        rule();
        drop();
        node();
        name();
        comment();
        letter();
        alike();
        twins();
        told();
        ways();
        held();
        found();
        rulesOf();
        tests();
        asked();
        edit();
        comes();
        conflicts();
        would();
        apply();
        rounds();
        after();
        undo();
        keep();
        again();
        count();
        everyPromiseIsNamed();
        Desk.close("BoundsOfPromisesTest");
    }

    private static void says(int promise, String sentence) {
        named[promise] = true;
        Desk.says("Promise " + promise, sentence);
    }

    private static void due(String what, Object got, Object want) {
        Desk.due(what, got, want);
    }

    private static void everyPromiseIsNamed() {
        for (int n = 1; n <= 30; n++) {
            due("promise " + n + " has a test", named[n], true);
        }
    }

    private static void newObject() {
        says(1, "The SOURCE is: a; no RULES.");
        Desk d = new Desk();
        due("text", d.text(), "a");
        int[] counts = {1, 1, 0, 0, 0, 0, 1};
        for (int what = 0; what <= 6; what++) {
            due("count(" + what + ")", d.x.count(what), counts[what]);
        }
        for (int rule = 0; rule < 8; rule++) {
            due("told(" + rule + ", 0)", d.x.told(rule, 0), NONE);
            due("drop(" + rule + ")", d.x.drop(rule), -2);
        }
        due("rulesOf(0)", d.x.rulesOf(0), 0);
        due("tests(0)", d.x.tests(0), 0);
        due("edit(0, -1, 0)", d.x.edit(0, NONE, 0), 0);
        due("apply(0)", d.x.apply(0), 0);
        due("undo()", d.x.undo(), -3);
        due("again(0)", d.x.again(0), false);
        due("again(1)", d.x.again(1), false);
        due("source()", d.x.source(), -1000);
        due("rule()", d.x.rule(), -1000);
        d.source("(f b)");
        due("an object of its own", new Desk().text(), "a");
    }

    private static void sign() {
        says(2, "Four signs come behind THE TEXT, of v the highest byte first: how many it has.");
        SyntaxRules x = new SyntaxRules();
        due("the first four", x.sign('(' << 24 | 'f' << 16 | ' ' << 8 | '1'), 4);
        due("the next four", x.sign('2' << 24 | '3' << 16 | '4' << 8 | ')'), 8);
        due("source()", x.source(), 2);
        StringBuilder s = new StringBuilder();
        for (int i = 0; i < 8; i++) {
            s.append((char) x.letter(i));
        }
        due("in their order", s.toString(), "(f 1234)");
        int[] odd = {MIN, -1, 0, 1, MAX, 0x80000000, 0x00800000, 0x00008000, 0x00000080};
        for (int v : odd) {
            SyntaxRules y = new SyntaxRules();
            due("sign(" + v + ")", y.sign(v), 4);
            due("no letter among them", y.source(), -1000);
        }
        says(2, "NONE, and none comes: there would be more than 300.");
        Desk d = new Desk();
        for (int i = 1; i <= 75; i++) {
            due("sign " + i, d.x.sign(0x61202020), 4 * i);
        }
        int[] full = {300, 299, 298, 297};
        for (int n : full) {
            d.x.end(n);
            due("sign() behind " + n, d.x.sign(0x61616161), NONE);
            due("none comes", d.x.count(4), n);
        }
        d.x.end(296);
        due("sign() behind 296", d.x.sign(0x61616161), 300);
    }

    private static void end() {
        says(3, "THE TEXT has its first n signs alone: true; false: it has not so many, n below 0.");
        Desk d = new Desk();
        due("end(0) of none", d.x.end(0), true);
        due("end(1) of none", d.x.end(1), false);
        d.type("abcdefgh");
        for (int n : Desk.FAR) {
            due("end(" + n + ")", d.x.end(n), false);
        }
        due("end(-1)", d.x.end(-1), false);
        due("end(9)", d.x.end(9), false);
        due("8 stand", d.x.count(4), 8);
        due("end(8)", d.x.end(8), true);
        due("8 stand yet", d.x.count(4), 8);
        due("end(7)", d.x.end(7), true);
        due("end(8), one is gone", d.x.end(8), false);
        due("7 stand", d.x.count(4), 7);
        due("source()", d.x.source(), 1);
        due("the first ones", d.text(), "abcdefg");
        d.type("ab");
        due("end(0)", d.x.end(0), true);
        due("none stands", d.x.count(4), 0);
        due("none comes back", d.x.source(), -1000);
        due("300", d.type(Desk.many("a", 300)).x.end(300), true);
        due("301", d.x.end(301), false);
    }

    private static void source() {
        says(4, "THE TEXT becomes the SOURCE: how many NODES.");
        Desk d = new Desk();
        due("1", d.source("b"), 1);
        due("what was ahead can be had back", d.x.count(5), 1);
        due("the same again", d.source("b"), 1);
        due("it was done", d.x.count(5), 2);
        due("60", d.source(SIXTY), 60);
        due("nothing stays of it", d.source("(f a)"), 2);
        due("NODES", d.x.count(0), 2);
        due("no NODE 2", d.throwsNoSuchElement(2, 0), true);
        says(4, "-1000 and less by p: a FAULT at p.");
        due("at 0", d.source(")"), -1000);
        due("at 1", d.source("()"), -1001);
        due("at 299", d.source(Desk.many(" ", 299) + ")"), -1299);
        due("at 300", d.source(Desk.many(" ", 300)), -1300);
        due("THE TEXT is empty", d.source(""), -1000);
        due("the SOURCE stays", d.text(), "(f a)");
        due("nothing more to be undone", d.x.count(5), 4);
    }

    private static void rule() {
        says(5, "THE TEXT is a RULE more: its number.");
        Desk d = new Desk();
        for (int i = 0; i < 8; i++) {
            due("number", d.rule("a = b"), i);
            due("how many", d.x.count(3), i + 1);
        }
        says(5, "-1000 and less by p: a FAULT at p (asked first); -3: there are 8.");
        due("there are 8", d.rule("a = b"), -3);
        due("a FAULT, though there are 8", d.rule("a = B"), -1004);
        due("an empty TEXT, though there are 8", d.rule(""), -1000);
        due("8 stand", d.x.count(3), 8);
        d.x.drop(7);
        due("a FAULT at 300", d.rule(Desk.many(" ", 300)), -1300);
        due("a FAULT at 299", d.rule("a = b" + Desk.many(" ", 294) + "b"), -1299);
        due("7 stand", d.x.count(3), 7);
        due("the eighth", d.rule("a = b"), 7);
        due("the SOURCE stays", d.text(), "a");
        due("nothing to be undone", d.x.count(5), 0);
    }

    private static void drop() {
        says(6, "A RULE goes: how many are left. -2.");
        Desk d = Desk.with("a", "a = 0", "a = 1", "a = 2");
        for (int n : Desk.FAR) {
            due("drop(" + n + ")", d.x.drop(n), -2);
        }
        due("drop(-1)", d.x.drop(-1), -2);
        due("drop(3)", d.x.drop(3), -2);
        due("drop(7)", d.x.drop(7), -2);
        due("drop(8)", d.x.drop(8), -2);
        due("3 stand", d.x.count(3), 3);
        due("drop(1)", d.x.drop(1), 2);
        due("drop(1), it is gone", d.x.drop(1), -2);
        due("drop(2)", d.x.drop(2), 1);
        due("drop(0)", d.x.drop(0), 0);
        due("drop(0), none is left", d.x.drop(0), -2);
        due("no EDIT", d.x.edit(0, NONE, 0), 0);
        Desk full = Desk.with("a", "a = 0", "a = 0", "a = 0", "a = 0", "a = 0", "a = 0", "a = 0", "a = 0");
        due("the last of 8", full.x.drop(7), 7);
        due("it FITS no more", full.x.rulesOf(0), 127);
    }

    private static void node() {
        says(7, "Of a NODE its KIND (what 0: 0 n, 1 w, 2 c), the NODE that has it as a PART (1; NONE of 0), which PART (2; NONE of 0)");
        Desk d = Desk.with("(f (g 1) a 23)");
        int[][] want = {
            {2, -1, -1, 3, 0, 14, 5, 0},
            {2, 0, 0, 1, 3, 5, 2, 1},
            {0, 1, 0, 0, 6, 1, 1, 2},
            {1, 0, 1, 0, 9, 1, 1, 1},
            {0, 0, 2, 0, 11, 2, 1, 1},
        };
        for (int n = 0; n < 5; n++) {
            for (int what = 0; what <= 7; what++) {
                due("node(" + n + ", " + what + ")", d.x.node(n, what), want[n][what]);
            }
        }
        due("the NODE of 0", new Desk().x.node(0, 1), NONE);
        due("which PART is 0", new Desk().x.node(0, 2), NONE);
        says(7, "how many PARTS (3), where its PLACE begins (4), how many signs it has (5), how many NODES are in it, itself, too (6), within how many it lies (7).");
        due("the 12th PART", Desk.with("(f" + Desk.many(" a", 12) + ")").x.node(12, 2), 11);
        due("12 PARTS", Desk.with("(f" + Desk.many(" a", 12) + ")").x.node(0, 3), 12);
        due("no PARTS", Desk.with("(f)").x.node(0, 3), 0);
        due("it begins at 299", Desk.with(Desk.many(" ", 299) + "a").x.node(0, 4), 299);
        due("it has 300 signs", Desk.with("(f" + Desk.many("\n", 297) + ")").x.node(0, 5), 300);
        due("60 are in it", Desk.with(SIXTY).x.node(0, 6), 60);
        due("itself alone", new Desk().x.node(0, 6), 1);
        due("within none", new Desk().x.node(0, 7), 0);
        due("within 16", Desk.with(Desk.many("(f", 16) + " a" + Desk.many(")", 16)).x.node(16, 7), 16);
        says(7, "NoSuchElementException: no such NODE; NONE: others.");
        for (int n : Desk.FAR) {
            due("node(" + n + ", 0) throws", d.throwsNoSuchElement(n, 0), true);
            due("node(" + n + ", " + n + ") throws", d.throwsNoSuchElement(n, n), true);
            due("node(0, " + n + ")", d.x.node(0, n), NONE);
        }
        due("node(-1, 0) throws", d.throwsNoSuchElement(-1, 0), true);
        due("node(5, 0) throws", d.throwsNoSuchElement(5, 0), true);
        due("node(4, 8) throws", d.throwsNoSuchElement(4, 8), false);
        due("node(4, 8)", d.x.node(4, 8), NONE);
        due("node(4, -1)", d.x.node(4, -1), NONE);
    }

    private static void name() {
        says(8, "The i-th sign of a NODE's WORD, NUMBER or HEAD. NONE: others.");
        Desk d = Desk.with("([x]abcdefgh zyxwvuts 0123 q)");
        due("HEAD", d.name(0), "abcdefgh");
        due("WORD", d.name(1), "zyxwvuts");
        due("NUMBER", d.name(2), "0123");
        due("one sign", d.name(3), "q");
        int[] behind = {8, 8, 4, 1};
        for (int n = 0; n < 4; n++) {
            due("name(" + n + ", " + behind[n] + ")", d.x.name(n, behind[n]), NONE);
            due("name(" + n + ", -1)", d.x.name(n, -1), NONE);
        }
        for (int n : Desk.FAR) {
            due("name(" + n + ", 0)", d.x.name(n, 0), NONE);
            due("name(1, " + n + ")", d.x.name(1, n), NONE);
        }
        due("name(4, 0)", d.x.name(4, 0), NONE);
        due("name(-1, 0)", d.x.name(-1, 0), NONE);
    }

    private static void comment() {
        says(9, "COMMENTS of the SOURCE: how many (i NONE, what 0); of the i-th where it begins (what 0), how many signs (1), the least NODE of which it lies in the PLACE, but of none of its PARTS' (2; NONE). NONE: others.");
        due("none", new Desk().x.comment(NONE, 0), 0);
        due("the first of none", new Desk().x.comment(0, 0), NONE);
        Desk d = Desk.with("[](f[a](g[bc]))[d]");
        int[][] want = {{0, 2, -1}, {4, 3, 0}, {9, 4, 1}, {15, 3, -1}};
        due("how many", d.x.comment(NONE, 0), 4);
        for (int i = 0; i < 4; i++) {
            for (int what = 0; what <= 2; what++) {
                due("comment(" + i + ", " + what + ")", d.x.comment(i, what), want[i][what]);
            }
            due("comment(" + i + ", 3)", d.x.comment(i, 3), NONE);
            due("comment(" + i + ", -1)", d.x.comment(i, -1), NONE);
        }
        due("comment(-1, 1)", d.x.comment(NONE, 1), NONE);
        due("comment(-1, 2)", d.x.comment(NONE, 2), NONE);
        due("comment(-1, -1)", d.x.comment(NONE, -1), NONE);
        due("comment(4, 0)", d.x.comment(4, 0), NONE);
        for (int n : Desk.FAR) {
            due("comment(" + n + ", 0)", d.x.comment(n, 0), NONE);
            due("comment(1, " + n + ")", d.x.comment(1, n), NONE);
        }
        Desk most = Desk.with("a" + Desk.many("[]", 149));
        due("149", most.x.comment(NONE, 0), 149);
        due("the last begins at", most.x.comment(148, 0), 297);
        due("behind the last", most.x.comment(149, 0), NONE);
        Desk longest = Desk.with("[" + Desk.many("x", 297) + "]a");
        due("the longest", longest.x.comment(0, 1), 299);
    }

    private static void letter() {
        says(10, "The i-th sign of the SOURCE. NONE.");
        Desk d = Desk.with("(f\n1 )");
        String text = "(f\n1 )";
        for (int i = 0; i < 6; i++) {
            due("letter(" + i + ")", d.x.letter(i), (int) text.charAt(i));
        }
        due("letter(6)", d.x.letter(6), NONE);
        due("letter(-1)", d.x.letter(-1), NONE);
        for (int n : Desk.FAR) {
            due("letter(" + n + ")", d.x.letter(n), NONE);
        }
        d.source("ab");
        due("nothing stays of a longer one", d.x.letter(2), NONE);
        Desk full = Desk.with(Desk.many("\n", 299) + "a");
        due("letter(299)", full.x.letter(299), (int) 'a');
        due("letter(300)", full.x.letter(300), NONE);
    }

    private static void alike() {
        says(11, "Whether two NODES are ALIKE: 1, 0. NONE: no such ones.");
        Desk d = Desk.with("(f a a b)");
        due("alike(1, 2)", d.x.alike(1, 2), 1);
        due("alike(1, 3)", d.x.alike(1, 3), 0);
        due("alike(0, 0)", d.x.alike(0, 0), 1);
        due("alike(3, 3)", d.x.alike(3, 3), 1);
        due("alike(0, 1)", d.x.alike(0, 1), 0);
        int[] none = {-1, 4};
        for (int n : none) {
            due("alike(0, " + n + ")", d.x.alike(0, n), NONE);
            due("alike(" + n + ", 0)", d.x.alike(n, 0), NONE);
            due("alike(" + n + ", " + n + ")", d.x.alike(n, n), NONE);
        }
        for (int n : Desk.FAR) {
            due("alike(0, " + n + ")", d.x.alike(0, n), NONE);
            due("alike(" + n + ", 0)", d.x.alike(n, 0), NONE);
            due("alike(" + n + ", " + n + ")", d.x.alike(n, n), NONE);
        }
    }

    private static void twins() {
        says(12, "How many NODES are ALIKE with a NODE (what 0; itself, too), the least of them (1). NONE: others.");
        Desk d = Desk.with("(f a b a)");
        int[][] want = {{1, 0}, {2, 1}, {1, 2}, {2, 1}};
        for (int n = 0; n < 4; n++) {
            due("twins(" + n + ", 0)", d.x.twins(n, 0), want[n][0]);
            due("twins(" + n + ", 1)", d.x.twins(n, 1), want[n][1]);
            due("twins(" + n + ", 2)", d.x.twins(n, 2), NONE);
            due("twins(" + n + ", -1)", d.x.twins(n, -1), NONE);
        }
        due("twins(4, 0)", d.x.twins(4, 0), NONE);
        Desk full = Desk.with(SIXTY);
        due("of 60 NODES", full.x.twins(59, 0), 54);
        due("of 60 NODES, the least", full.x.twins(59, 1), 2);
        due("twins(-1, 0)", d.x.twins(-1, 0), NONE);
        for (int n : Desk.FAR) {
            due("twins(" + n + ", 1)", d.x.twins(n, 1), NONE);
            due("twins(1, " + n + ")", d.x.twins(1, n), NONE);
        }
    }

    private static void checkTold(String rule, int... want) {
        Desk d = Desk.with("a", rule);
        for (int what = 0; what < 5; what++) {
            due("told(0, " + what + ") of " + rule, d.x.told(0, what), want[what]);
        }
    }

    private static void told() {
        says(13, "Of a RULE how many TESTS its PATTERN has (what 0), how many *L (1), 1 if it has a ^, else 0 (2), unlike L (3), NODES of KIND c in its PUT (4). NONE: others.");
        checkTold("_ = a", 0, 0, 0, 0, 0);
        checkTold("(f *A *B) = (g *A)", 1, 2, 0, 2, 1);
        checkTold("(f *A *A) = (g *A *A *A)", 1, 2, 0, 1, 1);
        checkTold("^ (f ?A ?A ?B) = (g (h) (i (k)))", 1, 0, 1, 2, 4);
        checkTold("(f (g (h))) = a", 6, 0, 0, 0, 0);
        checkTold("(f ?A ?B ?C ?D ?E ?F ?G ?H ?I ?J ?K ?L ?M ?N ?O ?P ?Q ?R ?Z) = a", 2, 0, 0, 19, 0);
        checkTold("?Z = " + Desk.many("(f", 20) + Desk.many(")", 20), 0, 0, 0, 1, 20);
        checkTold("(f" + Desk.many(" ?A:n", 19) + ") = ?A", 2 + 19 + 18, 0, 0, 1, 0);
        checkTold("(f *A" + Desk.many(" ?B", 18) + ") = (g" + Desk.many(" (h)", 19) + ")", 1, 1, 0, 2, 20);
        Desk d = Desk.with("a", "a = b");
        due("told(1, 0)", d.x.told(1, 0), NONE);
        due("told(-1, 0)", d.x.told(-1, 0), NONE);
        due("told(8, 0)", d.x.told(8, 0), NONE);
        due("told(0, 5)", d.x.told(0, 5), NONE);
        due("told(0, -1)", d.x.told(0, -1), NONE);
        for (int n : Desk.FAR) {
            due("told(" + n + ", 0)", d.x.told(n, 0), NONE);
            due("told(0, " + n + ")", d.x.told(0, n), NONE);
        }
        d.x.drop(0);
        due("of one that is gone", d.x.told(0, 0), NONE);
    }

    private static void ways() {
        says(14, "In how many WAYS the PATTERN of a RULE FITS a NODE (500 at most are counted). NONE: no such ones.");
        // the *A and *B of f have 12 WAYS, ^ _ as many as there are NODES in its last PART
        String eleven = "(f" + Desk.many(" a", 11);
        String in41 = "(h" + Desk.many("(h a a a)", 10) + ")";
        String in42 = "(h" + Desk.many("(h a a a)", 10) + " a)";
        due("12 times 41", Desk.with(eleven + in41 + ")", "(f *A *B ^ _) = q").x.ways(0, 0), 492);
        due("12 times 42", Desk.with(eleven + in42 + ")", "(f *A *B ^ _) = q").x.ways(0, 0), 500);
        // (f *A *B) has 11 WAYS for 10 PARTS; ^ (f *A *B) those of all f in it
        String ten = "(f" + Desk.many(" a", 9) + " (g";
        Desk two = Desk.with("(f a b)", "(f *A *B) = (f *A *B)", "(f ?A *B) = (f ?A *B)", "^ ?A = ?A", "(f ?A ?B) = q");
        due("3", two.x.ways(0, 0), 3);
        due("1, whatever was chosen for another RULE", two.x.ways(1, 0), 1);
        due("3 NODES", two.x.ways(2, 0), 3);
        due("1 yet", two.x.ways(3, 0), 1);
        String most = "(f *A *B" + Desk.many(" _", 10) + " ^ _ " + Desk.many(" _", 5) + ")";
        due("a PATTERN and a PUT of 20, FITS not", Desk.with("(f a)", most + " = (g" + Desk.many(" *A", 19) + ")").x.ways(0, 0), 0);
        String twenty = Desk.many("(f", 18) + " *A *B" + Desk.many(")", 18);
        due("it would be deeper than a SOURCE", Desk.with("(f a)", twenty + " = " + twenty).x.ways(0, 0), 0);
        String five = "(f" + Desk.many(" (g a a a a a)", 3) + " b)";
        due("a PATTERN and a PUT of 20", Desk.with(five, five + " = " + five).x.ways(0, 0), 1);
        String twelve = "(f *A *B" + Desk.many(" a", 10) + ")";
        due("12 PARTS, 10 told", Desk.with("(f" + Desk.many(" a", 12) + ")", twelve + " = " + twelve).x.ways(0, 0), 3);
        due("none", Desk.with("a", "b = q").x.ways(0, 0), 0);
        due("1", Desk.with("a", "a = q").x.ways(0, 0), 1);
        due("11 and 3", Desk.with(ten + " (f a a)))", "^ (f *A *B) = q").x.ways(0, 0), 14);
        Desk d = Desk.with("(f a)", "a = q");
        int[] none = {-1, 2};
        for (int n : none) {
            due("ways(0, " + n + ")", d.x.ways(0, n), NONE);
            due("ways(" + n + ", 0)", d.x.ways(n, 0), NONE);
        }
        due("ways(1, 0)", d.x.ways(1, 0), NONE);
        due("ways(8, 0)", d.x.ways(8, 0), NONE);
        for (int n : Desk.FAR) {
            due("ways(0, " + n + ")", d.x.ways(0, n), NONE);
            due("ways(" + n + ", 0)", d.x.ways(n, 0), NONE);
        }
    }

    private static void held() {
        says(15, "What an L (0 .. 25) HOLDS in the first WAY: the first NODE (what 0; NONE of an empty row), how many (1).");
        Desk d = Desk.with("(f a b)", "(f ?A *Z) = q", "(f ?A _ *Z) = q", "(f *A *Z) = q");
        due("A", d.x.held(0, 0, 0, 0), 1);
        due("A, how many", d.x.held(0, 0, 0, 1), 1);
        due("Z", d.x.held(0, 0, 25, 0), 2);
        due("Z, how many", d.x.held(0, 0, 25, 1), 1);
        due("Z, empty", d.x.held(1, 0, 25, 0), NONE);
        due("Z, empty, how many", d.x.held(1, 0, 25, 1), 0);
        due("A, as few as can be", d.x.held(2, 0, 0, 1), 0);
        due("Z, all", d.x.held(2, 0, 25, 1), 2);
        due("the NODE itself", Desk.with("(f a b)", "?Z = q").x.held(0, 0, 25, 0), 0);
        says(15, "NONE: it FITS not, no such ones, others, no such L in the PATTERN.");
        for (int what = 0; what <= 1; what++) {
            due("it FITS not", d.x.held(0, 1, 0, what), NONE);
            due("no such NODE", d.x.held(0, 3, 0, what), NONE);
            due("NODE -1", d.x.held(0, -1, 0, what), NONE);
            due("no such RULE", d.x.held(3, 0, 0, what), NONE);
            due("RULE -1", d.x.held(-1, 0, 0, what), NONE);
            due("no such L in the PATTERN", d.x.held(0, 0, 1, what), NONE);
            due("letter -1", d.x.held(0, 0, -1, what), NONE);
            due("letter 26", d.x.held(0, 0, 26, what), NONE);
            due("letter 'A'", d.x.held(0, 0, 'A', what), NONE);
        }
        due("what 2", d.x.held(0, 0, 0, 2), NONE);
        due("what -1", d.x.held(0, 0, 0, -1), NONE);
        for (int n : Desk.FAR) {
            due("rule " + n, d.x.held(n, 0, 0, 0), NONE);
            due("node " + n, d.x.held(0, n, 0, 0), NONE);
            due("letter " + n, d.x.held(0, 0, n, 1), NONE);
            due("what " + n, d.x.held(0, 0, 0, n), NONE);
        }
    }

    private static void found() {
        says(16, "NODES that a RULE FITS: how many (i NONE), the i-th by numbers. NONE: others.");
        Desk d = Desk.with("(f a b a)", "a = q", "z = q", "_ = q");
        due("how many", d.x.found(0, NONE), 2);
        due("0", d.x.found(0, 0), 1);
        due("1", d.x.found(0, 1), 3);
        due("2", d.x.found(0, 2), NONE);
        due("none", d.x.found(1, NONE), 0);
        due("the first of none", d.x.found(1, 0), NONE);
        due("all", d.x.found(2, NONE), 4);
        due("the first of all", d.x.found(2, 0), 0);
        due("the last of all", d.x.found(2, 3), 3);
        due("-2", d.x.found(0, -2), NONE);
        due("rule 3", d.x.found(3, NONE), NONE);
        due("rule -1", d.x.found(-1, NONE), NONE);
        for (int n : Desk.FAR) {
            due("found(0, " + n + ")", d.x.found(0, n), NONE);
            due("found(" + n + ", -1)", d.x.found(n, NONE), NONE);
        }
    }

    private static void rulesOf() {
        says(17, "RULES that FIT a NODE, as bits. NONE: no such NODE.");
        Desk d = Desk.with("(f a)", "_ = q", "a = q", "z = q", "_ = q", "_ = q", "_ = q", "_ = q", "_ = q");
        due("of 0", d.x.rulesOf(0), 1 + 8 + 16 + 32 + 64 + 128);
        due("of 1", d.x.rulesOf(1), 255 - 4);
        due("of 2", d.x.rulesOf(2), NONE);
        due("of -1", d.x.rulesOf(-1), NONE);
        for (int n : Desk.FAR) {
            due("rulesOf(" + n + ")", d.x.rulesOf(n), NONE);
        }
        due("no RULES", new Desk().x.rulesOf(0), 0);
    }

    private static void tests() {
        says(18, "TESTS of all RULES (what 0), of the SHARED tree (1). NONE: others.");
        Desk d = new Desk();
        due("no RULES", d.x.tests(0), 0);
        due("no RULES, SHARED", d.x.tests(1), 0);
        for (int i = 0; i < 8; i++) {
            d.rule("(f" + Desk.many(" ?A:n", 12 + i) + ") = ?A");
        }
        int all = 0;
        for (int i = 0; i < 8; i++) {
            all += 2 + 2 * (12 + i) - 1;
        }
        due("the most", d.x.tests(0), all);
        due("the most, SHARED", d.x.tests(1), all - 7);
        due("tests(2)", d.x.tests(2), NONE);
        due("tests(-1)", d.x.tests(-1), NONE);
        for (int n : Desk.FAR) {
            due("tests(" + n + ")", d.x.tests(n), NONE);
        }
    }

    private static void asked() {
        says(19, "ASKED. NONE: no such NODE.");
        Desk d = Desk.with("(f a)", "(f b) = q", "a = q");
        due("of 0", d.x.asked(0), 4);
        due("of 1", d.x.asked(1), 2);
        due("of 2", d.x.asked(2), NONE);
        due("of -1", d.x.asked(-1), NONE);
        for (int n : Desk.FAR) {
            due("asked(" + n + ")", d.x.asked(n), NONE);
        }
        due("no RULES", new Desk().x.asked(0), 0);
    }

    private static void edit() {
        says(20, "EDITS: how many (i NONE, what 0); of the i-th the RULE (what 0), the NODE (1), how many signs come in its place (2; without blanks that are put beside), how many COMMENTS are carried ahead (3).");
        Desk d = Desk.with("(h(f[x]a)(f)b)", "(f a) = cd", "(f) = e");
        int[][] want = {{0, 1, 6, 1}, {1, 3, 1, 0}};
        for (int way = 0; way <= 1; way++) {
            due("how many", d.x.edit(way, NONE, 0), 2);
            for (int i = 0; i < 2; i++) {
                for (int what = 0; what <= 3; what++) {
                    due("edit(" + way + ", " + i + ", " + what + ")", d.x.edit(way, i, what), want[i][what]);
                }
            }
        }
        due("none", new Desk().x.edit(0, NONE, 0), 0);
        due("the first of none", new Desk().x.edit(0, 0, 0), NONE);
        says(20, "-1: no such WAY; NONE: others.");
        for (int what = 0; what <= 3; what++) {
            due("edit(-1, 0, " + what + ")", d.x.edit(-1, 0, what), NONE);
            due("edit(2, 0, " + what + ")", d.x.edit(2, 0, what), NONE);
            due("edit(0, 2, " + what + ")", d.x.edit(0, 2, what), NONE);
            due("edit(0, -2, " + what + ")", d.x.edit(0, -2, what), NONE);
            due("edit(0, -1, " + (what + 1) + ")", d.x.edit(0, NONE, what + 1), NONE);
        }
        due("edit(2, -1, 0)", d.x.edit(2, NONE, 0), NONE);
        due("edit(0, 0, 4)", d.x.edit(0, 0, 4), NONE);
        due("edit(0, 0, -1)", d.x.edit(0, 0, -1), NONE);
        for (int n : Desk.FAR) {
            due("edit(" + n + ", -1, 0)", d.x.edit(n, NONE, 0), NONE);
            due("edit(0, " + n + ", 0)", d.x.edit(0, n, 0), NONE);
            due("edit(1, 0, " + n + ")", d.x.edit(1, 0, n), NONE);
            due("edit(1, -1, " + n + ")", d.x.edit(1, NONE, n), NONE);
        }
    }

    private static void comes() {
        says(21, "The k-th sign of what comes by the i-th EDIT. NONE: others.");
        Desk d = Desk.with("(h(f)(f)b)", "(f) = cd");
        for (int i = 0; i < 2; i++) {
            due("comes(0, " + i + ", 0)", d.x.comes(0, i, 0), (int) 'c');
            due("comes(1, " + i + ", 1)", d.x.comes(1, i, 1), (int) 'd');
            due("comes(0, " + i + ", 2)", d.x.comes(0, i, 2), NONE);
            due("comes(0, " + i + ", -1)", d.x.comes(0, i, -1), NONE);
        }
        due("comes(0, 2, 0)", d.x.comes(0, 2, 0), NONE);
        due("comes(0, -1, 0)", d.x.comes(0, -1, 0), NONE);
        due("comes(2, 0, 0)", d.x.comes(2, 0, 0), NONE);
        due("comes(-1, 0, 0)", d.x.comes(-1, 0, 0), NONE);
        for (int n : Desk.FAR) {
            due("comes(" + n + ", 0, 0)", d.x.comes(n, 0, 0), NONE);
            due("comes(0, " + n + ", 0)", d.x.comes(0, n, 0), NONE);
            due("comes(0, 0, " + n + ")", d.x.comes(0, 0, n), NONE);
        }
        String source = "(f [" + Desk.many("x", 280) + "] abc)";
        Desk more = Desk.with(source, "?A:c = (g" + Desk.many(" ?A", 19) + ")");
        int length = 2 + 19 * (source.length() + 1) + 1;
        due("more signs than a SOURCE may have", more.x.edit(0, 0, 2), length);
        due("sign 299", more.x.comes(0, 0, 299), (int) source.charAt((299 - 2) % (source.length() + 1) - 1));
        due("sign 300", more.x.comes(0, 0, 300), (int) source.charAt((300 - 2) % (source.length() + 1) - 1));
        due("the last sign", more.x.comes(0, 0, length - 1), (int) ')');
        due("behind the last sign", more.x.comes(0, 0, length), NONE);
    }

    private static void conflicts() {
        says(22, "CONFLICTS of a WALK: NODES that some RULE FITS, but which are no EDIT (what 0), NODES of EDITS that more than one RULE FITS (1), RULES that have no EDIT, but FIT some NODE, as bits (2). NONE: others.");
        Desk d = Desk.with("(f (f a) b)", "(f *A) = q", "a = q", "_ = q", "z = q", "b = q");
        int[][] want = {{3, 1, 2 + 4 + 16}, {2, 2, 1 + 16}};
        for (int way = 0; way <= 1; way++) {
            for (int what = 0; what <= 2; what++) {
                due("conflicts(" + way + ", " + what + ")", d.x.conflicts(way, what), want[way][what]);
            }
            due("what 3", d.x.conflicts(way, 3), NONE);
            due("what -1", d.x.conflicts(way, -1), NONE);
        }
        due("way 2", d.x.conflicts(2, 0), NONE);
        due("way -1", d.x.conflicts(-1, 0), NONE);
        for (int n : Desk.FAR) {
            due("conflicts(" + n + ", 0)", d.x.conflicts(n, 0), NONE);
            due("conflicts(0, " + n + ")", d.x.conflicts(0, n), NONE);
        }
        for (int what = 0; what <= 2; what++) {
            due("no RULES", new Desk().x.conflicts(0, what), 0);
            due("one RULE, one NODE", Desk.with("a", "a = q").x.conflicts(1, what), 0);
        }
        Desk all = Desk.with("a", "_ = q", "_ = q", "_ = q", "_ = q", "_ = q", "_ = q", "_ = q", "_ = q");
        due("all but the least", all.x.conflicts(0, 2), 254);
    }

    private static void would() {
        says(23, "How many signs the SOURCE would have APPLIED by a WALK (what 0), NODES (1), COMMENTS (2); -3 (all of these) if it can't be. NONE: others.");
        Desk d = Desk.with("(f[1](g[2]a)(g b))", "(g ?A) = (h ?A 1)", "(g a) = q");
        int[] want = {"(f[1][2] (h a 1)(h b 1))".length(), 7, 2};
        for (int way = 0; way <= 1; way++) {
            for (int what = 0; what <= 2; what++) {
                due("would(" + way + ", " + what + ")", d.x.would(way, what), want[what]);
            }
        }
        Desk e = Desk.with("(f" + Desk.many(" a", 12) + "[x])", "(f *A) = (f 1 *A)");
        for (int what = 0; what <= 2; what++) {
            due("it can't be, " + what, e.x.would(0, what), -3);
            due("no EDIT, " + what, Desk.with("(f[x] a)", "b = q").x.would(1, what), new int[] {8, 2, 1}[what]);
        }
        Desk[] both = {d, e};
        for (Desk each : both) {
            due("what 3", each.x.would(0, 3), NONE);
            due("what -1", each.x.would(0, -1), NONE);
            due("way 2", each.x.would(2, 0), NONE);
            due("way -1", each.x.would(-1, 0), NONE);
            for (int n : Desk.FAR) {
                due("would(" + n + ", 0)", each.x.would(n, 0), NONE);
                due("would(0, " + n + ")", each.x.would(0, n), NONE);
            }
        }
    }

    private static void apply() {
        says(24, "APPLIED: how many EDITS (0: nothing happens, nothing more to be undone). -1: no such WAY; -3: it can't be.");
        Desk d = Desk.with("(f a a b)", "a = c");
        due("2 EDITS", d.x.apply(0), 2);
        due("text", d.text(), "(f c c b)");
        due("one more to be undone", d.x.count(5), 2);
        due("none", d.x.apply(0), 0);
        due("none from inside", d.x.apply(1), 0);
        due("text", d.text(), "(f c c b)");
        due("nothing more to be undone", d.x.count(5), 2);
        due("apply(2)", d.x.apply(2), -1);
        due("apply(-1)", d.x.apply(-1), -1);
        for (int n : Desk.FAR) {
            due("apply(" + n + ")", d.x.apply(n), -1);
        }
        Desk same = Desk.with("a", "a = a");
        due("the same SOURCE comes", same.x.apply(0), 1);
        due("yet it was done", same.x.count(5), 2);
        Desk e = Desk.with("(f" + Desk.many(" a", 12) + ")", "(f *A) = (f 1 *A)");
        due("it can't be", e.x.apply(0), -3);
        due("nothing more to be undone", e.x.count(5), 1);
        Desk most = Desk.with(SIXTY, "a = b");
        due("54 EDITS", most.x.apply(1), 54);
    }

    private static void rounds() {
        says(25, "APPLIED again and again, n times (1 .. 6) at most, till there is no EDIT, or it can't be: how many times. (One step for undo(); none, if 0 times.) -1.");
        for (int n = 1; n <= 6; n++) {
            Desk d = Desk.with("(s (s (s (s z))))", "(s ?A) = ?A");
            due("rounds(0, " + n + ")", d.x.rounds(0, n), Math.min(n, 4));
            due("one step", d.x.count(5), 2);
            due("undone", d.x.undo(), 1);
            due("text", d.text(), "(s (s (s (s z))))");
        }
        Desk d = Desk.with("a", "a = b", "b = a");
        due("6 times", d.x.rounds(1, 6), 6);
        due("text", d.text(), "a");
        for (int way = 0; way <= 1; way++) {
            due("rounds(" + way + ", 0)", d.x.rounds(way, 0), -1);
            due("rounds(" + way + ", -1)", d.x.rounds(way, -1), -1);
            due("rounds(" + way + ", 7)", d.x.rounds(way, 7), -1);
        }
        due("rounds(2, 1)", d.x.rounds(2, 1), -1);
        due("rounds(-1, 1)", d.x.rounds(-1, 1), -1);
        for (int n : Desk.FAR) {
            due("rounds(0, " + n + ")", d.x.rounds(0, n), -1);
            due("rounds(" + n + ", 1)", d.x.rounds(n, 1), -1);
        }
        due("text", d.text(), "a");
        due("no step", d.x.count(5), 2);
        Desk none = Desk.with("a", "c = b");
        due("0 times", none.x.rounds(0, 6), 0);
        due("no step", none.x.count(5), 1);
        Desk e = Desk.with("(f a a a)", "(f *A) = (f *A *A)");
        due("till it can't be", e.x.rounds(0, 6), 2);
        due("12 PARTS", e.x.node(0, 3), 12);
    }

    private static void after() {
        says(26, "On paper: of rounds() what its last one would leave:");
        Desk paper = Desk.with("(s (s z))", "(s ?A) = ?A");
        String before = paper.state();
        for (int what = 0; what <= 2; what++) {
            paper.x.after(0, 6, what);
            paper.x.after(1, 1, what);
        }
        due("nothing changes", paper.state(), before);
        says(26, "how many signs the SOURCE has (what 0), EDITS there are then (1), 1 if a SOURCE comes that was there ahead in them (the one now, too; sign by sign), else 0 (2). NONE: no such WAY, n, others.");
        int[] signs = {13, 9, 5, 1, 1, 1};
        int[] edits = {1, 1, 1, 0, 0, 0};
        Desk d = Desk.with("(s (s (s (s z))))", "(s ?A) = ?A");
        for (int n = 1; n <= 6; n++) {
            due("after(0, " + n + ", 0)", d.x.after(0, n, 0), signs[n - 1]);
            due("after(1, " + n + ", 1)", d.x.after(1, n, 1), edits[n - 1]);
            due("after(0, " + n + ", 2)", d.x.after(0, n, 2), 0);
        }
        for (int n : Desk.FAR) {
            due("after(" + n + ", 1, 0)", d.x.after(n, 1, 0), NONE);
            due("after(0, " + n + ", 0)", d.x.after(0, n, 0), NONE);
            due("after(0, 1, " + n + ")", d.x.after(0, 1, n), NONE);
        }
        for (int what = 0; what <= 2; what++) {
            due("after(2, 1, " + what + ")", d.x.after(2, 1, what), NONE);
            due("after(-1, 1, " + what + ")", d.x.after(-1, 1, what), NONE);
            due("after(0, 0, " + what + ")", d.x.after(0, 0, what), NONE);
            due("after(0, -1, " + what + ")", d.x.after(0, -1, what), NONE);
            due("after(0, 7, " + what + ")", d.x.after(0, 7, what), NONE);
        }
        due("after(0, 1, 3)", d.x.after(0, 1, 3), NONE);
        due("after(0, 1, -1)", d.x.after(0, 1, -1), NONE);
        due("on paper", d.text() + d.x.count(5), "(s (s (s (s z))))1");
        Desk circle = Desk.with("a", "a = b", "b = c", "c = d", "d = e", "e = f", "f = a");
        Desk later = Desk.with("a", "a = b", "b = c", "c = d", "d = e", "e = f", "f = e");
        for (int n = 1; n <= 6; n++) {
            due("the one now after " + n, circle.x.after(0, n, 2), n == 6 ? 1 : 0);
            due("a later one after " + n, later.x.after(0, n, 2), n == 6 ? 1 : 0);
        }
        due("at once", Desk.with("a", "a = a").x.after(0, 1, 2), 1);
        due("no EDIT", Desk.with("a", "b = a").x.after(0, 6, 2), 0);
        due("sign by sign", Desk.with("(f  a)", "(f a) = (f a)").x.after(0, 1, 2), 0);
        due("sign by sign, the next", Desk.with("(f  a)", "(f a) = (f a)").x.after(0, 2, 2), 1);
        due("as long, unlike", Desk.with("a", "a = b").x.after(0, 6, 2), 0);
    }

    private static void undo() {
        says(27, "The SOURCE is as it was ahead of the latest: how many can be had back yet. -3: none.");
        Desk d = new Desk();
        due("none", d.x.undo(), -3);
        due("text", d.text(), "a");
        for (int i = 1; i <= 9; i++) {
            d.source("(f[x]" + i + ")");
        }
        for (int left = 7; left >= 0; left--) {
            due("undo()", d.x.undo(), left);
            due("text", d.text(), "(f[x]" + (left + 1) + ")");
            due("NODES", d.x.count(0), 2);
            due("COMMENTS", d.x.count(2), 1);
        }
        due("none is left", d.x.undo(), -3);
        due("the oldest stays", d.text(), "(f[x]1)");
        d.source("b");
        due("the ring goes on", d.x.undo(), 0);
        due("text", d.text(), "(f[x]1)");
        due("none again", d.x.undo(), -3);
    }

    private static void keep() {
        says(28, "The SOURCE and RULES are kept under k (0, 1): true; false: others.");
        Desk d = Desk.with("(f a)", "a = b");
        due("keep(0)", d.x.keep(0), true);
        due("keep(2)", d.x.keep(2), false);
        due("keep(-1)", d.x.keep(-1), false);
        for (int n : Desk.FAR) {
            due("keep(" + n + ")", d.x.keep(n), false);
        }
        due("nothing under 1", d.x.again(1), false);
        d.source("c");
        d.x.drop(0);
        due("keep(1)", d.x.keep(1), true);
        d.source("d");
        due("again(0)", d.x.again(0), true);
        due("text and RULES", d.text() + d.x.count(3), "(f a)1");
        due("again(1)", d.x.again(1), true);
        due("text and RULES", d.text() + d.x.count(3), "c0");
        due("again(0)", d.x.again(0), true);
        d.source("e");
        due("keep(0) anew", d.x.keep(0), true);
        d.source("g");
        d.x.again(0);
        due("the new one", d.text(), "e");
    }

    private static void again() {
        says(29, "They are as they were kept; false: others, nothing kept.");
        Desk d = Desk.with("(f a)", "a = 0", "a = 1", "a = 2");
        due("nothing kept", d.x.again(0), false);
        due("nothing kept", d.x.again(1), false);
        d.x.drop(1);
        String kept = d.state();
        d.x.keep(1);
        due("nothing under 0", d.x.again(0), false);
        d.source("(g b)");
        d.x.drop(0);
        d.rule("(g ?A) = ?A");
        d.rule("(g *A) = (h *A)");
        String before = d.state();
        due("again(2)", d.x.again(2), false);
        due("again(-1)", d.x.again(-1), false);
        for (int n : Desk.FAR) {
            due("again(" + n + ")", d.x.again(n), false);
        }
        due("again(0)", d.x.again(0), false);
        due("refused, nothing changes", d.state(), before);
        due("again(1)", d.x.again(1), true);
        due("as they were kept, but what can be had back", d.state(), kept.replace("(f a) 2 5 0 2 1 2", "(f a) 2 5 0 2 0 2"));
        due("the number that was free", d.rule("a = 3"), 1);
        due("again(1) once more", d.x.again(1), true);
        due("a RULE made since is gone", d.x.count(3), 2);
    }

    private static void count() {
        says(30, "0 NODES, 1 signs of the SOURCE, 2 COMMENTS, 3 RULES, 4 signs of THE TEXT, 5 what can be had back, 6 the most NODES within one another. NONE: others.");
        Desk d = Desk.with("[x](f (g[y] 1) a)", "a = b");
        d.type("abcde");
        int[] want = {4, 17, 2, 1, 5, 1, 3};
        for (int what = 0; what <= 6; what++) {
            due("count(" + what + ")", d.x.count(what), want[what]);
        }
        due("count(7)", d.x.count(7), NONE);
        due("count(-1)", d.x.count(-1), NONE);
        for (int n : Desk.FAR) {
            due("count(" + n + ")", d.x.count(n), NONE);
        }
        due("one alone", new Desk().x.count(6), 1);
        due("(f)", Desk.with("(f)").x.count(6), 1);
        due("(f a)", Desk.with("(f a)").x.count(6), 2);
        due("17", Desk.with(Desk.many("(f", 16) + " a" + Desk.many(")", 16)).x.count(6), 17);
        due("the first is the deepest", Desk.with("(f (g (h a)) b)").x.count(6), 4);
        due("60 NODES", Desk.with(SIXTY).x.count(6), 3);
    }
}
