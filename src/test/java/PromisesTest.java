import java.util.NoSuchElementException;

/** Every promise of the document by its number: ordinary inputs, the edges it names, wrong inputs. */
public final class PromisesTest {
    private static final int MIN = Integer.MIN_VALUE;
    private static final int MAX = Integer.MAX_VALUE;

    public static void main(String[] args) {
        newObject();
        sign();
        end();
        source();
        sourceBounds();
        rule();
        ruleBounds();
        drop();
        node();
        name();
        comment();
        letter();
        alike();
        twins();
        told();
        ways();
        held();
        found();
        rulesOf();
        tests();
        asked();
        edit();
        comes();
        conflicts();
        would();
        apply();
        seams();
        rounds();
        after();
        undo();
        keep();
        again();
        count();
        fullHouse();
        Desk.close("PromisesTest");
    }

    private static void due(String what, int got, int want) {
        Desk.due(what, got, want);
    }

    private static void due(String what, boolean got, boolean want) {
        Desk.due(what, got, want);
    }

    private static void due(String what, String got, String want) {
        Desk.due(what, got, want);
    }

    private static void promise(int n) {
        Desk.promise = "promise " + n;
    }

    private static void newObject() {
        promise(1);
        Desk d = new Desk();
        due("text", d.text(), "a");
        due("nodes", d.x.count(0), 1);
        due("kind", d.x.node(0, 0), 1);
        due("rules", d.x.count(3), 0);
        due("typed", d.x.count(4), 0);
        due("past", d.x.count(5), 0);
        due("undo", d.x.undo(), -3);
        due("again", d.x.again(0), false);
        due("tests", d.x.tests(0), 0);
        due("NONE", SyntaxRules.NONE, -1);
    }

    private static void sign() {
        promise(2);
        Desk d = new Desk();
        due("first", d.x.sign('a' << 24 | ' ' << 16 | ' ' << 8 | ' '), 4);
        due("second", d.x.sign(0x20202020), 8);
        due("source", d.x.source(), 1);
        for (int i = 1; i <= 74; i++) {
            d.x.sign(-1);
        }
        due("296 stand", d.x.count(4), 296);
        due("300", d.x.sign(0), 300);
        due("304", d.x.sign(0), -1);
        due("none came", d.x.count(4), 300);
        d.x.end(297);
        due("301", d.x.sign(0), -1);
        d.x.end(296);
        due("300 again", d.x.sign(0), 300);
        due("highest byte first", new Desk().source("(f a)"), 2);
        d.x.end(0);
        d.x.sign(0xE1202020);
        due("a byte above 127 is no letter", d.x.source(), -1000);
    }

    private static void end() {
        promise(3);
        Desk d = new Desk();
        due("0 of 0", d.x.end(0), true);
        due("1 of 0", d.x.end(1), false);
        d.type("abcdefgh");
        due("9 of 8", d.x.end(9), false);
        due("-1", d.x.end(-1), false);
        due("least", d.x.end(MIN), false);
        due("most", d.x.end(MAX), false);
        due("nothing changed", d.x.count(4), 8);
        due("8 of 8", d.x.end(8), true);
        due("3 of 8", d.x.end(3), true);
        due("3 stand", d.x.count(4), 3);
        due("not back again", d.x.end(4), false);
        d.x.source();
        due("the first ones", d.text(), "abc");
    }

    private static void source() {
        promise(4);
        Desk d = new Desk();
        due("nodes", d.source("(f a 1 (g))"), 4);
        due("the text is empty", d.x.count(4), 0);
        due("empty", d.source(""), -1000);
        due("layout alone", d.source(" \n[x]"), -1005);
        due("stays", d.text(), "(f a 1 (g))");
        due("the fault empties the text", d.type("(").x.source() + d.x.count(4), -1001);
        due("layout kept", d.source(" [a(]\n( [b] f[c]a[]1 [d\ne] ) [~ [ ]\n"), 3);
        due("kept byte for byte", d.text(), " [a(]\n( [b] f[c]a[]1 [d\ne] ) [~ [ ]\n");
        due("side by side", d.source("(f1a2)"), 4);
        due("9 letters", d.source("abcdefghi"), -1008);
        due("8 letters", d.source("abcdefgh"), 1);
        due("5 digits", d.source("12345"), -1004);
        due("4 digits", d.source("1234"), 1);
        due("9 letters of a head", d.source("(abcdefghi)"), -1009);
        due("( without a word", d.source("( )"), -1002);
        due("( with a number", d.source("(1)"), -1001);
        due("((", d.source("((f))"), -1001);
        due("not closed", d.source("(f a"), -1004);
        due(") alone", d.source(")"), -1000);
        due("a second term", d.source("(f)a"), -1003);
        due("a word and a number", d.source("a1"), -1001);
        due("comment not closed", d.source("a[bc"), -1004);
        due("byte 127 in a comment", d.source("a[b\u007f]"), -1003);
        due("byte 31 in a comment", d.source("[\u001f]a"), -1001);
        due("byte 9 in a comment", d.source("[\t]a"), -1001);
        due("byte 126 in a comment", d.source("[~]a"), 1);
        due("a tab", d.source("\ta"), -1000);
        due("a capital", d.source("(f A)"), -1003);
        due("] alone", d.source("(f ])"), -1003);
        due("a hole", d.source("(f ?A)"), -1003);
        due("`", d.source("`"), -1000);
        due("{", d.source("{"), -1000);
        due("/", d.source("/"), -1000);
        due(":", d.source(":"), -1000);
    }

    private static void sourceBounds() {
        promise(4);
        Desk d = new Desk();
        String four = "(g" + Desk.many(" a", 11) + ")";
        String most = "(f" + Desk.many(four, 4) + Desk.many(" a", 7) + "(h a a a";
        due("60 nodes", d.source(most + "))"), 60);
        due("a 61st", d.source(most + " bbbbbbbbb))"), -1000 - most.length() - 1);
        due("a 61st, at its (", d.source(most + "(b))"), -1000 - most.length());
        due("12 parts", d.source("(f" + Desk.many(" a", 12) + ")"), 13);
        due("a 13th", d.source("(f" + Desk.many(" a", 12) + " [x] b)"), -1000 - 2 - 24 - 5);
        due("16 open", d.source(Desk.many("(f", 16) + " a" + Desk.many(")", 16)), 17);
        due("a 17th", d.source(Desk.many("(f", 17) + Desk.many(")", 17)), -1032);
        due("16 open twice", d.source("(h" + Desk.many(Desk.many("(f", 15) + Desk.many(")", 15), 2) + ")"), 31);
        due("300 signs", d.source(Desk.many("[x]", 99) + "  a"), 1);
        due("99 comments", d.x.comment(-1, 0), 99);
        due("149 comments", d.source(Desk.many("[]", 149) + "a"), 1);
        due("149 of them", d.x.count(2), 149);
    }

    private static void rule() {
        promise(5);
        Desk d = new Desk();
        due("first", d.rule("a = b"), 0);
        due("text empty", d.x.count(4), 0);
        due("no blanks", d.rule("(f?A*B)=(g?A*B)"), 1);
        due("longest words", d.rule("(abcdefgh zyxwvuts 1234) = (abcdefgh 0000)"), 2);
        d.x.drop(2);
        due("many blanks", d.rule("  ( f  ?A:n  _  ^  1 )  =  ( g  ?A  )  "), 2);
        due("a hole and a word", d.rule("(f?Ab?B:nw)=?Ac"), -1014);
        due("a hole and a word side by side", d.rule("(f?Ab?B:nw)=(f?Ac)"), 3);
        due("third", d.rule("_ = 1"), 4);
        due("empty", d.rule(""), -1000);
        due("pattern alone", d.rule("a "), -1002);
        due("no put", d.rule("a = "), -1004);
        due("two puts", d.rule("a = b c"), -1006);
        due("two patterns", d.rule("a b = c"), -1002);
        due("= twice", d.rule("a == b"), -1003);
        due("= within", d.rule("(f = a"), -1003);
        due("line end", d.rule("a\n= b"), -1001);
        due("comment", d.rule("a [x] = b"), -1002);
        due("( alone", d.rule("( ) = b"), -1002);
        due("( with a hole", d.rule("(?A) = b"), -1001);
        due("not closed", d.rule("(f a = b"), -1005);
        due("ends in a ( )", d.rule("(f a"), -1004);
        due("? alone", d.rule("? = b"), -1001);
        due("? at the end", d.rule("?"), -1001);
        due("? small", d.rule("?a = b"), -1001);
        due("?@", d.rule("?@ = b"), -1001);
        due("?[", d.rule("?[ = b"), -1001);
        due("?A and ?Z", d.rule("(f ?A ?Z) = ?Z"), 5);
        due("* alone", d.rule("(f * A) = b"), -1004);
        due("* on top", d.rule("*A = b"), -1000);
        due("* behind ^", d.rule("(f ^*A) = b"), -1004);
        due("* on top of a put", d.rule("(f *A) = *A"), -1009);
        due("kind", d.rule("?A:x = b"), -1003);
        due("kind at the end", d.rule("?A:"), -1003);
        due("blank ahead of :", d.rule("?A :n = b"), -1003);
        due("blank behind :", d.rule("?A: n = b"), -1003);
        due(": of a row", d.rule("(f *A:n) = b"), -1005);
        due(": of _", d.rule("_:n = b"), -1001);
        due(": in a put", d.rule("?A:n = ?A:n"), -1009);
        due("^ in a put", d.rule("a = ^b"), -1004);
        due("_ in a put", d.rule("a = _"), -1004);
        due("^ without", d.rule("^ = a"), -1002);
        due("second ^", d.rule("(f ^a ^b) = c"), -1006);
        due("third *L", d.rule("(f *A (g *B) *A) = c"), -1013);
        due("? then *", d.rule("(f ?A *A) = c"), -1007);
        due("* then ?", d.rule("(f *A ?A) = c"), -1007);
        due("? then * in a put", d.rule("?A = (f *A)"), -1009);
        due("* then ? in a put", d.rule("(f *A) = ?A"), -1010);
        due("not in the pattern", d.rule("?A = (f ?B)"), -1009);
        due("not in the pattern, *", d.rule("?A = (f *B)"), -1009);
        due("many *L in a put", d.rule("(f *A) = (f *A *A *A *A)"), 6);
        due("9 letters", d.rule("a = abcdefghi"), -1012);
        due("9 letters of a head", d.rule("(abcdefghi) = a"), -1009);
        due("5 digits", d.rule("12345 = a"), -1004);
        due("6 rules stand", d.x.count(3), 7);
        due("eighth", d.rule("1 = 2"), 7);
        due("ninth", d.rule("1 = 2"), -3);
        due("text empty after -3", d.x.count(4), 0);
        due("a fault is asked first", d.rule("1 = "), -1004);
        d.x.drop(3);
        due("the least free", d.rule("1 = 2"), 3);
        due("the source stays", d.text(), "a");
    }

    private static void ruleBounds() {
        promise(5);
        Desk d = new Desk();
        due("20 in a pattern", d.rule("(f" + Desk.many(" a", 19) + ") = b"), 0);
        due("a 21st", d.rule("(f" + Desk.many(" a", 20) + ") = b"), -1000 - 2 - 38 - 1);
        due("^ counts", d.rule("(f" + Desk.many(" a", 17) + " ^ a) = b"), 1);
        due("^ counts, its own is a 21st", d.rule("(f" + Desk.many(" a", 18) + " ^ a) = b"), -1000 - 2 - 36 - 3);
        due("*L counts", d.rule("(f" + Desk.many(" a", 19) + " *A) = b"), -1000 - 2 - 38 - 1);
        due("20 in a put", d.rule("a = (f" + Desk.many(" b", 19) + ")"), 2);
        due("a 21st in a put", d.rule("a = (f" + Desk.many(" b", 20) + ")"), -1000 - 6 - 38 - 1);
        due("20 of each", d.rule("(f *A" + Desk.many(" a", 18) + ") = (f" + Desk.many(" *A", 19) + ")"), 3);
        due("20 within one another", d.rule(Desk.many("(f", 20) + Desk.many(")", 20) + "=a"), 4);
        due("13 parts", d.rule("(f" + Desk.many(" a", 13) + ") = b"), 5);
    }

    private static void drop() {
        promise(6);
        Desk d = Desk.with("a", "a = 1", "a = 2", "a = 3");
        due("drop 1", d.x.drop(1), 2);
        due("drop 1 again", d.x.drop(1), -2);
        due("drop 3", d.x.drop(3), -2);
        due("drop -1", d.x.drop(-1), -2);
        due("drop 8", d.x.drop(8), -2);
        due("drop least", d.x.drop(MIN), -2);
        due("drop most", d.x.drop(MAX), -2);
        due("the others fit yet", d.x.rulesOf(0), 5);
        due("drop 0", d.x.drop(0), 1);
        due("number stays", d.x.edit(0, 0, 0), 2);
        due("drop 2", d.x.drop(2), 0);
        due("number again", d.rule("a = 4"), 0);
    }

    private static int thrown(Desk d, int node, int what) {
        try {
            d.x.node(node, what);
            return 0;
        } catch (NoSuchElementException e) {
            return 1;
        }
    }

    private static void node() {
        promise(7);
        Desk d = Desk.with(" (f ab[x] (g 12 (h)) 7)");
        int[][] rows = {
            {2, -1, -1, 3, 1, 22, 6, 0},
            {1, 0, 0, 0, 4, 2, 1, 1},
            {2, 0, 1, 2, 10, 10, 3, 1},
            {0, 2, 0, 0, 13, 2, 1, 2},
            {2, 2, 1, 0, 16, 3, 1, 2},
            {0, 0, 2, 0, 21, 1, 1, 1},
        };
        for (int n = 0; n < rows.length; n++) {
            for (int what = 0; what < 8; what++) {
                due("node " + n + " " + what, d.x.node(n, what), rows[n][what]);
            }
            due("what 8", d.x.node(n, 8), -1);
            due("what -1", d.x.node(n, -1), -1);
        }
        due("node 6", thrown(d, 6, 0), 1);
        due("node -1", thrown(d, -1, 0), 1);
        due("node 6, what 99", thrown(d, 6, 99), 1);
        due("node least", thrown(d, MIN, 0), 1);
        due("node most", thrown(d, MAX, 0), 1);
        due("node 5", thrown(d, 5, 0), 0);
    }

    private static void name() {
        promise(8);
        Desk d = Desk.with("( [x] head word 0123)");
        due("head", d.name(0), "head");
        due("word", d.name(1), "word");
        due("number", d.name(2), "0123");
        due("behind", d.x.name(0, 4), -1);
        due("ahead", d.x.name(0, -1), -1);
        due("no node", d.x.name(3, 0), -1);
        due("node -1", d.x.name(-1, 0), -1);
        due("most", d.x.name(0, MAX), -1);
    }

    private static void comment() {
        promise(9);
        Desk d = Desk.with("[a](f[bc] x [d] (g[e])[](h 1))[\n]");
        due("how many", d.x.comment(-1, 0), 6);
        int[][] rows = {{0, 3, -1}, {5, 4, 0}, {12, 3, 0}, {18, 3, 2}, {22, 2, 0}, {30, 3, -1}};
        for (int i = 0; i < rows.length; i++) {
            for (int what = 0; what < 3; what++) {
                due("comment " + i + " " + what, d.x.comment(i, what), rows[i][what]);
            }
            due("what 3", d.x.comment(i, 3), -1);
            due("what -1", d.x.comment(i, -1), -1);
        }
        due("-1 1", d.x.comment(-1, 1), -1);
        due("-1 2", d.x.comment(-1, 2), -1);
        due("6", d.x.comment(6, 0), -1);
        due("-2", d.x.comment(-2, 0), -1);
        due("ahead of the head", Desk.with("([x]f)").x.comment(0, 2), 0);
        due("none", Desk.with("a").x.comment(-1, 0), 0);
    }

    private static void letter() {
        promise(10);
        Desk d = Desk.with("(f\n1)");
        due("0", d.x.letter(0), '(');
        due("2", d.x.letter(2), 10);
        due("4", d.x.letter(4), ')');
        due("5", d.x.letter(5), -1);
        due("-1", d.x.letter(-1), -1);
        due("most", d.x.letter(MAX), -1);
    }

    private static void alike() {
        promise(11);
        // 0 f, 1 g, 2 a, 3 (h 1), 4 1, 5 g, 6 a, 7 (h 1), 8 1, 9 g, 10 a, 11 (h 01), 12 01, 13 h, 14 (h), 15 (h a 1)
        Desk d = Desk.with("(f (g a (h 1)) (g[x]a\n(h 1) ) (g a (h 01)) h (h) (h a 1))");
        due("itself", d.x.alike(0, 0), 1);
        due("layout does not count", d.x.alike(1, 5), 1);
        due("0s ahead count", d.x.alike(1, 9), 0);
        due("1 and 01", d.x.alike(4, 12), 0);
        due("a word, a head", d.x.alike(13, 14), 0);
        due("other parts", d.x.alike(14, 3), 0);
        due("more parts", d.x.alike(15, 3), 0);
        due("words", d.x.alike(2, 10), 1);
        due("in itself", d.x.alike(0, 1), 0);
        due("no such", d.x.alike(0, 18), -1);
        due("no such, the other way", d.x.alike(18, 0), -1);
        due("-1", d.x.alike(-1, -1), -1);
        Desk e = Desk.with("(f (f a) (f (a)) (f (g a) b) (f (g a b)))");
        due("a and (a)", e.x.alike(1, 3), 0);
        due("another shape, as many nodes", e.x.alike(5, 9), 0);
    }

    private static void twins() {
        promise(12);
        Desk d = Desk.with("(f (g a) b (g a) a)");
        due("g", d.x.twins(4, 0), 2);
        due("the least g", d.x.twins(4, 1), 1);
        due("a", d.x.twins(6, 0), 3);
        due("the least a", d.x.twins(6, 1), 2);
        due("b", d.x.twins(3, 0), 1);
        due("itself", d.x.twins(3, 1), 3);
        due("the outermost", d.x.twins(0, 0), 1);
        due("the outermost, itself", d.x.twins(0, 1), 0);
        due("what 2", d.x.twins(3, 2), -1);
        due("what -1", d.x.twins(3, -1), -1);
        due("no such", d.x.twins(7, 0), -1);
        due("-1", d.x.twins(-1, 1), -1);
    }

    private static void checkTold(String rule, int tests, int rows, int deep, int letters, int terms) {
        Desk d = Desk.with("a", rule);
        int[] want = {tests, rows, deep, letters, terms};
        for (int what = 0; what < 5; what++) {
            due("told " + what + " of " + rule, d.x.told(0, what), want[what]);
        }
    }

    private static void told() {
        promise(13);
        checkTold("_ = a", 0, 0, 0, 0, 0);
        checkTold("?A = ?A", 0, 0, 0, 1, 0);
        checkTold("?A:n = (f ?A)", 1, 0, 0, 1, 1);
        checkTold("a = (f (g) (h (i)))", 1, 0, 0, 0, 4);
        checkTold("12 = a", 1, 0, 0, 0, 0);
        checkTold("(f) = a", 2, 0, 0, 0, 0);
        checkTold("(f _ ?A ?B) = a", 2, 0, 0, 2, 0);
        checkTold("(f ?A ?A ?A) = a", 4, 0, 0, 1, 0);
        checkTold("(f ?A:n ?A:n) = a", 5, 0, 0, 1, 0);
        checkTold("(f a (g 1) ?B) = a", 6, 0, 0, 1, 0);
        checkTold("(f *A a (g 1)) = a", 1, 1, 0, 1, 0);
        checkTold("(f a (g *A 1 *A)) = a", 4, 2, 0, 1, 0);
        checkTold("(f (g *A) *B) = a", 1, 2, 0, 2, 0);
        checkTold("^ (f a 1) = a", 1, 0, 1, 0, 0);
        checkTold("(f ^ (g ?A:n) ?A) = a", 3, 0, 1, 1, 0);
        checkTold("(f (g ?A *B) ?A) = a", 3, 1, 0, 2, 0);
        checkTold("(f ?A (g ?A *B)) = a", 3, 1, 0, 2, 0);
        checkTold("(f (g ?A *B) ?A ?A) = a", 4, 1, 0, 2, 0);
        Desk d = Desk.with("a", "a = b");
        due("no such rule", d.x.told(1, 0), -1);
        due("rule -1", d.x.told(-1, 0), -1);
        due("rule 8", d.x.told(8, 0), -1);
        due("what 5", d.x.told(0, 5), -1);
        due("what -1", d.x.told(0, -1), -1);
    }

    private static int waysOf(String source, String pattern, int node) {
        return Desk.with(source, pattern + " = a").x.ways(0, node);
    }

    private static void ways() {
        promise(14);
        due("_", waysOf("(f a)", "_", 0), 1);
        due("word", waysOf("a", "a", 0), 1);
        due("another word", waysOf("a", "b", 0), 0);
        due("a word is no part of one", waysOf("ab", "a", 0), 0);
        due("a word is no head", waysOf("(a)", "a", 0), 0);
        due("a head is no word", waysOf("a", "(a)", 0), 0);
        due("0s ahead", waysOf("01", "1", 0), 0);
        due("number", waysOf("01", "01", 0), 1);
        due("kind n", waysOf("1", "?A:n", 0), 1);
        due("kind n of a word", waysOf("a", "?A:n", 0), 0);
        due("kind w", waysOf("a", "?A:w", 0), 1);
        due("kind c", waysOf("(a)", "?A:c", 0), 1);
        due("kind c of a word", waysOf("a", "?A:c", 0), 0);
        due("alike", waysOf("(f (g 1)(g[x]1))", "(f ?A ?A)", 0), 1);
        due("not alike", waysOf("(f (g 1)(g 2))", "(f ?A ?A)", 0), 0);
        due("too few parts", waysOf("(f a)", "(f _ _)", 0), 0);
        due("too many parts", waysOf("(f a a a)", "(f _ _)", 0), 0);
        due("a row", waysOf("(f a b c)", "(f *A)", 0), 1);
        due("no part", waysOf("(f)", "(f *A)", 0), 1);
        due("two rows", waysOf("(f a b c)", "(f *A *B)", 0), 4);
        due("two rows, one between", waysOf("(f a b c)", "(f *A _ *B)", 0), 3);
        due("two rows, b between", waysOf("(f a b c)", "(f *A b *B)", 0), 1);
        due("the same row twice", waysOf("(f a b a b)", "(f *A *A)", 0), 1);
        due("the same row twice, odd", waysOf("(f a b a)", "(f *A *A)", 0), 0);
        due("the same row twice, one between", waysOf("(f a b a b)", "(f *A _ *A)", 0), 0);
        due("row in another", waysOf("(f a b (g a b))", "(f *A (g *A))", 0), 1);
        due("row in another, unlike", waysOf("(f a b (g a))", "(f *A (g *A))", 0), 0);
        due("too few for a row", waysOf("(f a)", "(f _ *A _)", 0), 0);
        due("^ itself", waysOf("a", "^ a", 0), 1);
        due("^ any", waysOf("(f a (g b))", "^ _", 0), 4);
        due("^ in it", waysOf("(f a (g a))", "^ a", 0), 2);
        due("^ in it alone", waysOf("(f a (g a))", "^ a", 2), 1);
        due("^ below", waysOf("(f a (g a))", "(f ?A ^ ?A)", 0), 1);
        due("^ with rows", waysOf("(f a (f b c))", "^ (f *A *B)", 0), 6);
        due("told apart though they hold the same", waysOf("(f a a a)", "(f *A ?B *C)", 0), 3);
        String last = "(h" + Desk.many(" (h a a a)", 9) + "(h a))";
        due("500 at most", waysOf("(f" + Desk.many(" a", 11) + last + ")", "(f *A *B ^ _)", 0), 468);
        String more = "(h" + Desk.many(" (h a a a)", 10) + "(h a a))";
        due("500 at most are counted", waysOf("(f" + Desk.many(" a", 11) + more + ")", "(f *A *B ^ _)", 0), 500);
        Desk d = Desk.with("(f a)", "a = b");
        due("no such node", d.x.ways(0, 2), -1);
        due("node -1", d.x.ways(0, -1), -1);
        due("no such rule", d.x.ways(1, 0), -1);
        due("rule -1", d.x.ways(-1, 0), -1);
        due("rule most", d.x.ways(MAX, 0), -1);
    }

    private static void held() {
        promise(15);
        Desk d = Desk.with("(f a (g b) c)", "(f *A ?B *C) = a", "^ (g ?A) = a", "(f ?A *B) = b");
        due("A, empty", d.x.held(0, 0, 0, 0), -1);
        due("A, how many", d.x.held(0, 0, 0, 1), 0);
        due("B", d.x.held(0, 0, 1, 0), 1);
        due("B, how many", d.x.held(0, 0, 1, 1), 1);
        due("C", d.x.held(0, 0, 2, 0), 2);
        due("C, how many", d.x.held(0, 0, 2, 1), 2);
        due("D", d.x.held(0, 0, 3, 0), -1);
        due("what 2", d.x.held(0, 0, 1, 2), -1);
        due("what -1", d.x.held(0, 0, 1, -1), -1);
        due("letter 26", d.x.held(0, 0, 26, 0), -1);
        due("letter -1", d.x.held(0, 0, -1, 0), -1);
        due("letter -1, how many", d.x.held(0, 0, -1, 1), -1);
        due("it fits not", d.x.held(0, 1, 1, 0), -1);
        due("no such node", d.x.held(0, 5, 1, 0), -1);
        due("no such rule", d.x.held(3, 0, 1, 0), -1);
        due("in the depth", d.x.held(1, 0, 0, 0), 3);
        due("in the depth from within", d.x.held(1, 2, 0, 0), 3);
        due("the first standing", Desk.with("(f (g a) (g a))", "(f ?A ?A) = a").x.held(0, 0, 0, 0), 1);
        due("the first standing of a row", Desk.with("(f (g a b) a b)", "(f (g *A) *A) = a").x.held(0, 0, 0, 0), 2);
        due("as few as can be", Desk.with("(f a b b c)", "(f *A b *C) = a").x.held(0, 0, 0, 1), 1);
        due("^ itself first", Desk.with("(f (f a))", "^ (f ?A) = a").x.held(0, 0, 0, 0), 1);
        due("^ then by numbers", Desk.with("(f (g (h 1)) 2)", "^ ?A:n = a").x.held(0, 0, 0, 0), 3);
        due("what comes first in the pattern", Desk.with("(f a (g 1 2) b (g 3))", "(f *A ^?N:n *B) = a").x.held(0, 0, 13, 0), 3);
        due("^ ahead of a row", Desk.with("(f (g 1 2) 2 1)", "(f ^?N:n *A ?N *B) = a").x.held(0, 0, 13, 0), 2);
        due("Z", Desk.with("(f a)", "(f ?Z) = a").x.held(0, 0, 25, 0), 1);
    }

    private static void found() {
        promise(16);
        Desk d = Desk.with("(f a (a) b a)", "a = 1", "2 = 3");
        due("how many", d.x.found(0, -1), 2);
        due("0", d.x.found(0, 0), 1);
        due("1", d.x.found(0, 1), 4);
        due("2", d.x.found(0, 2), -1);
        due("-2", d.x.found(0, -2), -1);
        due("most", d.x.found(0, MAX), -1);
        due("none", d.x.found(1, -1), 0);
        due("the outermost", Desk.with("(f a)", "(f _) = b").x.found(0, 0), 0);
        due("the first of none", d.x.found(1, 0), -1);
        due("no such rule", d.x.found(2, -1), -1);
        due("rule -1", d.x.found(-1, -1), -1);
    }

    private static void rulesOf() {
        promise(17);
        Desk d = Desk.with("(f a 1)", "a = 1", "_ = 2", "?A:n = 3", "(f *A) = 4", "z = 5", "(f _ _) = 6", "^ 1 = 7", "_ = 8");
        due("0", d.x.rulesOf(0), 2 + 8 + 32 + 64 + 128);
        due("1", d.x.rulesOf(1), 1 + 2 + 128);
        due("2", d.x.rulesOf(2), 2 + 4 + 64 + 128);
        due("3", d.x.rulesOf(3), -1);
        due("-1", d.x.rulesOf(-1), -1);
        d.x.drop(1);
        due("dropped", d.x.rulesOf(1), 1 + 128);
        due("no rules", new Desk().x.rulesOf(0), 0);
    }

    private static void checkTests(int all, int shared, String... rules) {
        Desk d = Desk.with("a", rules);
        due("tests of " + String.join("; ", rules), d.x.tests(0), all);
        due("shared tests of " + String.join("; ", rules), d.x.tests(1), shared);
    }

    private static void tests() {
        promise(18);
        checkTests(0, 0, "_ = a", "?A = a");
        checkTests(2, 1, "a = b", "a = c");
        checkTests(2, 2, "a = b", "1 = c");
        checkTests(4, 2, "(f) = b", "( f ) = c");
        checkTests(4, 3, "(f _) = b", "(f) = c");
        checkTests(3, 3, "a = b", "(a) = c");
        checkTests(6, 4, "(f a _) = b", "(f _ a) = c");
        checkTests(6, 3, "(f ?A ?A) = b", "(f ?B ?B) = c");
        checkTests(6, 3, "(f ?A:n) = b", "(f ?B:n) = c");
        checkTests(6, 4, "(f ?A:n) = b", "(f ?B:w) = c");
        checkTests(8, 5, "(f ?A ?B ?A ?B) = b", "(f ?A ?B ?A ?A) = c");
        checkTests(8, 6, "(f ?A ?B ?A ?B) = b", "(f ?A ?B ?B ?A) = c");
        checkTests(2, 1, "(f *A 1) = b", "( f*A 1 ) = c");
        checkTests(2, 2, "(f *A 1) = b", "(f *B 1) = c");
        checkTests(2, 2, "(f ?A *B) = b", "(f ?A:n *B) = c");
        checkTests(2, 2, "(f (g a) *B) = b", "(f (g) a *B) = c");
        checkTests(2, 1, "^ (f 1) = b", "^(f 1) = c");
        checkTests(2, 2, "^ (f 1) = b", "^ (f 2) = c");
        checkTests(2, 2, "^ (f *A) = b", "(f *A) = c");
        checkTests(6, 4, "(f ^a _) = b", "(f _ ^a) = c");
        checkTests(10, 6, "(f (g a) _) = b", "(f (g b) _) = c");
        checkTests(14, 8, "(f a 1) = b", "(f a 2) = b", "(f b 1) = b", "a = c", "a = 1");
        checkTests(4, 3, "a = 1", "b = 1", "c = 1", "b = 2");
        checkTests(4, 3, "a = 1", "b = 1", "c = 1", "a = 2");
        checkTests(4, 3, "a = 1", "b = 1", "c = 1", "c = 2");
        checkTests(12, 5, "(f a) = 1", "(f b) = 1", "(f c) = 1", "(f b) = 2");
        checkTests(12, 5, "(f a) = 1", "(f b) = 1", "(f c) = 1", "(f a) = 2");
        Desk d = Desk.with("a", "a = b", "(f a) = c", "(f a b) = c");
        due("three", d.x.tests(1), 1 + 3 + 3);
        d.x.drop(1);
        due("dropped", d.x.tests(0), 5);
        due("what 2", d.x.tests(2), -1);
        due("what -1", d.x.tests(-1), -1);
    }

    private static void asked() {
        promise(19);
        Desk d = Desk.with("(f a (f b 1) a (g) (f a a))", "(f a _) = b", "(f ?A ?A) = b", "(f *A 1) = b", "?A:n = b", "^ g = c");
        // at the top: head f, the *A of f, kind n, ^ g; below head f: 2 parts; below that: a, alike
        due("0: head", d.x.asked(0), 5);
        due("1: none", d.x.asked(1), 4);
        due("2: head, parts", d.x.asked(2), 7);
        due("7: all", d.x.asked(7), 7);
        due("10: no such", d.x.asked(10), -1);
        due("-1", d.x.asked(-1), -1);
        due("no rules", new Desk().x.asked(0), 0);
        Desk e = Desk.with("(f (g 1) 2)", "(f (g ?A *B) ?A) = a", "(f ?A:c 1) = a");
        // head, parts, (g ?A *B) by itself; kind c, then 1
        due("by itself, whatever its L hold elsewhere", e.x.asked(0), 5);
        due("yet it fits not", e.x.rulesOf(0), 0);
        Desk g = Desk.with("(f a b)", "(f a (g _ _)) = 1", "(f ?A ?A) = 1", "(f ?A:n b) = 1", "(f b a) = 1");
        // head, parts, a, head g; alike; kind n (so nothing below); b
        due("nothing below what is not so", g.x.asked(0), 7);
        Desk h = Desk.with("(f (g 1 2) (g 1 2))", "(f (g ?A ?B) (g ?A ?B)) = 1");
        due("deep paths", h.x.asked(0), 8);
        String[] rows = {"(f (g 2 1) b c)", "(f (g 2) b c)", "(f (g 1) c c)", "(h (g 1) b c)", "f", "(f (g 1) b)"};
        int[] want = {5, 3, 4, 1, 1, 2};
        for (int k = 0; k < rows.length; k++) {
            due("head, parts, a ( ) with a row, b, 7 asked of " + rows[k], Desk.with(rows[k], "(f (g *A 1) b 7) = 1").x.asked(0), want[k]);
        }
        due("alike is not so", Desk.with("(f 1 2 3)", "(f ?A ?A 3) = 1").x.asked(0), 3);
        due("alike is so", Desk.with("(f 1 1 2)", "(f ?A ?A 3) = 1").x.asked(0), 4);
        due("^ is not so", Desk.with("(f (g 2) 3)", "(f ^1 3) = 1").x.asked(0), 3);
        due("^ is so", Desk.with("(f (g 1) 4)", "(f ^1 3) = 1").x.asked(0), 4);
        due("which part of which", Desk.with("(f a (g b (h c d)))", "(f a (g b (h c d))) = 1").x.asked(0), 10);
        due("which part of which, ended", Desk.with("(f a (g b (h c d)))", "(f a (g b (h d c))) = 1").x.asked(0), 9);
        Desk i = Desk.with("(f (g 1 2) (g 1 2))", "(f (g ?A 3) (g ?A 2)) = 1");
        due("deep paths, ended", i.x.asked(0), 5);
    }

    private static void edit() {
        promise(20);
        Desk d = Desk.with("(f (f a) [x] b)", "(f *A) = (g *A)", "a = 1", "b = 2");
        due("outside", d.x.edit(0, -1, 0), 1);
        due("its rule", d.x.edit(0, 0, 0), 0);
        due("its node", d.x.edit(0, 0, 1), 0);
        due("its signs", d.x.edit(0, 0, 2), 15);
        due("its comments", d.x.edit(0, 0, 3), 0);
        due("inside", d.x.edit(1, -1, 0), 2);
        due("inside, rule of the first", d.x.edit(1, 0, 0), 1);
        due("inside, node of the first", d.x.edit(1, 0, 1), 2);
        due("inside, node of the second", d.x.edit(1, 1, 1), 3);
        due("inside, rule of the second", d.x.edit(1, 1, 0), 2);
        due("the third", d.x.edit(1, 2, 0), -1);
        due("the third, its node", d.x.edit(1, 2, 1), -1);
        due("the third, its signs", d.x.edit(1, 2, 2), -1);
        due("the third, its comments", d.x.edit(1, 2, 3), -1);
        due("what 4", d.x.edit(1, 0, 4), -1);
        due("what -1", d.x.edit(1, 0, -1), -1);
        due("-1 1", d.x.edit(1, -1, 1), -1);
        due("-2 0", d.x.edit(1, -2, 0), -1);
        due("way 2", d.x.edit(2, -1, 0), -1);
        due("way -1", d.x.edit(-1, -1, 0), -1);
        due("the least rule", Desk.with("a", "b = 1", "_ = 2", "a = 3").x.edit(0, 0, 0), 1);
        Desk e = Desk.with("(h (f (g a) b) (g c))", "(f *A) = 1", "(g _) = 2");
        due("outside again", e.x.edit(0, -1, 0), 2);
        due("first", e.x.edit(0, 0, 1), 1);
        due("second", e.x.edit(0, 1, 1), 5);
        due("inside again", e.x.edit(1, -1, 0), 2);
        due("first, inside", e.x.edit(1, 0, 1), 2);
        due("second, inside", e.x.edit(1, 1, 1), 5);
        Desk g = Desk.with("[0](f[1]a[2]b[3](g[4]c)[5])[6]", "(f ?A *B) = (h *B)");
        due("carried", g.x.edit(0, 0, 3), 3);
        due("carried, asked again", g.x.edit(0, 0, 3), 3);
        due("signs", g.x.edit(0, 0, 2), "[1] [2] [5] (h b[3](g[4]c))".length());
        due("none", Desk.with("a", "b = c").x.edit(0, -1, 0), 0);
        due("signs without the blank that is put beside", Desk.with("(f(g)b)", "(g) = a").x.edit(0, 0, 2), 1);
    }

    private static String written(String source, String rule) {
        return Desk.with(source, rule).comes(0, 0);
    }

    private static void comes() {
        promise(21);
        due("word", written("a", "a = bc"), "bc");
        due("number", written("a", "a = 01"), "01");
        due("term", written("a", "a =(f( g )1(h(i j)k))"), "(f (g) 1 (h (i j) k))");
        due("hole", written("(f  [x](g\n[y] 1))", "(f ?A) = (h ?A ?A)"), "[x] (h (g\n[y] 1) (g\n[y] 1))");
        due("row", written("(f a  b[x]c d)", "(f _ *A _) = (g *A)"), "(g b[x]c)");
        due("empty row", written("(f a)", "(f *A a) = (g *A b *A)"), "(g b)");
        due("empty row alone", written("(f)", "(f *A) = (g *A)"), "(g)");
        due("empty row in the depth", written("(f)", "(f *A) = (g (h *A) *A)"), "(g (h))");
        due("carried, between two", written("(f a[x]b)", "(f ?A ?B) = (g ?A ?B)"), "[x] (g a b)");
        due("carried, of what is not put", written("(f (g[x]a) b)", "(f ?A ?B) = ?B"), "[x] b");
        due("carried, in their order", written("([1]f[2]a[3])", "(f ?A) = ?A"), "[1] [2] [3] a");
        due("not those beside", written("[1](f a)[2]", "(f ?A) = ?A"), "a");
        due("the first standing is put", written("(f (g[1]a) (g[2]a))", "(f ?A ?A) = ?A"), "[2] (g[1]a)");
        due("out of the depth", written("(f (g (h[1]1)[2]))", "^ (h ?A) = ?A"), "[1] [2] 1");
        due("itself", written("(f[1]a)", "?A = (g ?A)"), "(g (f[1]a))");
        Desk two = Desk.with("(k (f (g[1]a) b) (h[2]1))", "(f ?A *B) = (m ?A *B)", "(h *A 1) = (n 5 *A)");
        due("first of two rules", two.comes(0, 0), "(m (g[1]a) b)");
        due("nothing stays of the first", two.comes(0, 1), "[2] (n 5)");
        Desk d = Desk.with("(f a b)", "a = cd", "b = 1");
        due("second edit", d.comes(0, 1), "1");
        due("behind", d.x.comes(0, 0, 2), -1);
        due("ahead", d.x.comes(0, 0, -1), -1);
        due("most", d.x.comes(0, 0, MAX), -1);
        due("edit 2", d.x.comes(0, 2, 0), -1);
        due("edit -1", d.x.comes(0, -1, 0), -1);
        due("way 2", d.x.comes(2, 0, 0), -1);
        due("way -1", d.x.comes(-1, 0, 0), -1);
        String big = "(f " + Desk.many("[yyyyyyyyyyyyyyyyyyyyyyyy]", 10) + "a)";
        Desk e = Desk.with(big, "?A:c = (g" + Desk.many(" ?A", 19) + ")");
        int length = 2 + 19 * (big.length() + 1) + 1;
        due("more than a source has", e.x.edit(0, 0, 2), length);
        due("its last sign", e.x.comes(0, 0, length - 1), ')');
        due("the one ahead", e.x.comes(0, 0, length - 3), 'a');
        due("the one behind", e.x.comes(0, 0, length), -1);
    }

    private static void conflicts() {
        promise(22);
        Desk d = Desk.with("(f (f a) a)", "(f *A) = 1", "_ = 2", "a = 3", "z = 4");
        due("outside, no edit", d.x.conflicts(0, 0), 3);
        due("outside, several", d.x.conflicts(0, 1), 1);
        due("outside, rules", d.x.conflicts(0, 2), 2 + 4);
        due("inside, no edit", d.x.conflicts(1, 0), 2);
        due("inside, several", d.x.conflicts(1, 1), 2);
        due("inside, rules", d.x.conflicts(1, 2), 1 + 4);
        due("what 3", d.x.conflicts(0, 3), -1);
        due("what -1", d.x.conflicts(0, -1), -1);
        due("way 2", d.x.conflicts(2, 0), -1);
        due("way -1", d.x.conflicts(-1, 0), -1);
        due("no rules", new Desk().x.conflicts(0, 0), 0);
        Desk e = Desk.with("(f a b)", "z = 1", "a = 2", "b = 3", "?A:w = 4");
        due("one rule alone does not count", Desk.with("(f a b)", "a = 2").x.conflicts(0, 1), 0);
        due("two edits of two rules each", e.x.conflicts(0, 1), 2);
        due("a rule that fits nothing does not count", e.x.conflicts(0, 2), 8);
        due("no node left", e.x.conflicts(0, 0), 0);
    }

    private static void would() {
        promise(23);
        Desk d = Desk.with("(f[x]a (g[y]1))", "a = (h a a)", "(g _) = b");
        due("signs", d.x.would(0, 0), "(f[x](h a a) [y] b)".length());
        due("nodes", d.x.would(0, 1), 5);
        due("comments", d.x.would(0, 2), 2);
        due("what 3", d.x.would(0, 3), -1);
        due("what -1", d.x.would(0, -1), -1);
        due("way 2", d.x.would(2, 0), -1);
        due("way -1", d.x.would(-1, 0), -1);
        due("nothing changes", d.text(), "(f[x]a (g[y]1))");
        Desk e = Desk.with("(f[x] a)", "b = c");
        due("no edit, signs", e.x.would(0, 0), 8);
        due("no edit, nodes", e.x.would(1, 1), 2);
        due("no edit, comments", e.x.would(1, 2), 1);
        Desk g = Desk.with("(f" + Desk.many(" a", 12) + ")", "(f *A) = (f *A *A)");
        for (int what = 0; what < 3; what++) {
            due("24 parts", g.x.would(0, what), -3);
        }
        due("can't be, what 3", g.x.would(0, 3), -1);
        String full = "(f " + Desk.many("[yyyyyyyyyyyyyyyyyyyyyyyyyyyyyyyyyyyyyyyyyyyyyyyy]", 5) + Desk.many(" ", 45) + "a)";
        due("full", full.length(), 300);
        Desk h = Desk.with(full, "a = b", "b = cc");
        due("300 signs", h.x.would(0, 0), 300);
        h.x.apply(0);
        due("301 signs", h.x.would(0, 0), -3);
    }

    private static void apply() {
        promise(24);
        Desk d = Desk.with(" [0](f a\n[1] (g a) 1)[2] ", "a = (b)", "1 = 22");
        due("edits", d.x.apply(0), 3);
        due("text", d.text(), " [0](f (b)\n[1] (g (b)) 22)[2] ");
        due("can be undone", d.x.count(5), 2);
        due("none", d.x.apply(0), 0);
        due("nothing more to be undone", d.x.count(5), 2);
        due("way 2", d.x.apply(2), -1);
        due("way -1", d.x.apply(-1), -1);
        Desk e = Desk.with("(f (f a))", "(f ?A) = (g ?A)");
        due("outside", e.x.apply(0), 1);
        due("outside, text", e.text(), "(g (f a))");
        e.x.undo();
        due("inside", e.x.apply(1), 1);
        due("inside, text", e.text(), "(f (g a))");
        Desk same = Desk.with("a", "a = a");
        due("the same comes", same.x.apply(0), 1);
        due("it was done", same.x.count(5), 2);
        checkCannot("13 parts", "(f" + Desk.many(" a", 12) + ")", "(f *A) = (f *A b)");
        checkCannot("61 nodes", "(f" + Desk.many("(g" + Desk.many(" a", 11) + ")", 4) + Desk.many(" a", 7) + "(h a a b))", "b = (c d)");
        checkCannot("17 open", Desk.many("(f", 16) + " a" + Desk.many(")", 16), "a = (b)");
        due("16 open", Desk.with(Desk.many("(f", 15) + " a" + Desk.many(")", 15), "a = (b)").x.apply(0), 1);
        due("12 parts", Desk.with("(f" + Desk.many(" a", 11) + ")", "(f *A) = (f *A b)").x.apply(0), 1);
    }

    private static void checkCannot(String what, String source, String rule) {
        Desk d = Desk.with(source, rule);
        due(what, d.x.apply(0), -3);
        due(what + ", text", d.text(), source);
        due(what + ", undo", d.x.count(5), 1);
    }

    private static String appliedText(String source, String... rules) {
        Desk d = Desk.with(source, rules);
        d.x.apply(0);
        return d.text();
    }

    private static void seams() {
        promise(24);
        due("ahead", appliedText("(f(g))", "(g) = a"), "(f a)");
        due("behind", appliedText("(f (g)b)", "(g) = a"), "(f a b)");
        due("both", appliedText("(f(g)b)", "(g) = a"), "(f a b)");
        due("a digit beside a letter", appliedText("(f(g)b)", "(g) = 1"), "(f1b)");
        due("digits", appliedText("(f 1(g)2)", "(g) = 3"), "(f 1 3 2)");
        due("one alone between two", appliedText("(f (g)(g))", "(g) = a"), "(f a a)");
        due("two edits, unlike", appliedText("(f (g)(h))", "(g) = a", "(h) = 1"), "(f a1)");
        due("where there is one none is put", appliedText("(f (g) b)", "(g) = a"), "(f a b)");
        due("a comment between", appliedText("(f[x](g)[y]b)", "(g) = a"), "(f[x]a[y]b)");
        due("carried ahead", appliedText("(f(g[x])b)", "(g) = a"), "(f[x] a b)");
        due("between word and number", appliedText("(f 1a2)", "a = 3"), "(f 1 3 2)");
        due("a held text", appliedText("(f(g a)(g b)c)", "(g ?A) = ?A"), "(f a b c)");
        due("a term", appliedText("(f(g)b)", "(g) = (h)"), "(f(h)b)");
        due("a term behind", appliedText("(f a(g))", "a = 1"), "(f 1(g))");
    }

    private static void rounds() {
        promise(25);
        Desk d = Desk.with("(s (s (s z)))", "(s ?A) = ?A");
        due("one", d.x.rounds(0, 1), 1);
        due("undone", d.x.undo(), 1);
        due("two", d.x.rounds(0, 2), 2);
        due("text", d.text(), "(s z)");
        due("one step for undo", d.x.count(5), 2);
        due("till there is none", d.x.rounds(0, 6), 1);
        due("none", d.x.rounds(0, 6), 0);
        due("none, nothing to be undone", d.x.count(5), 3);
        d.x.undo();
        d.x.undo();
        due("back", d.text(), "(s (s (s z)))");
        due("n 0", d.x.rounds(0, 0), -1);
        due("n 7", d.x.rounds(0, 7), -1);
        due("n -1", d.x.rounds(0, -1), -1);
        due("way 2", d.x.rounds(2, 1), -1);
        due("way -1", d.x.rounds(-1, 1), -1);
        due("nothing changed", d.text(), "(s (s (s z)))");
        Desk e = Desk.with("(f a)", "(f *A) = (f *A *A)");
        due("stops at one that can't be", e.x.rounds(0, 6), 3);
        due("those ahead stay", e.text(), "(f a a a a a a a a)");
        due("undone at once", e.x.undo() * 100 + e.x.count(1), 105);
        Desk g = Desk.with("(f" + Desk.many(" a", 12) + ")", "(f *A) = (f *A b)");
        due("can't be at first", g.x.rounds(0, 6), 0);
        due("nothing to be undone", g.x.count(5), 1);
        due("six", Desk.with("a", "a = b", "b = a").x.rounds(1, 6), 6);
        due("inside", Desk.with("(f (f a))", "(f ?A:w) = b").x.rounds(1, 6), 2);
        due("outside", Desk.with("(f (f a))", "(f ?A:w) = b", "(f ?A) = c").x.rounds(0, 6), 1);
    }

    private static void after() {
        promise(26);
        Desk d = Desk.with("(s (s (s z)))", "(s ?A) = ?A");
        due("signs after 1", d.x.after(0, 1, 0), 9);
        due("signs after 2", d.x.after(0, 2, 0), 5);
        due("signs after 6", d.x.after(0, 6, 0), 1);
        due("edits after 2", d.x.after(0, 2, 1), 1);
        due("edits after 3", d.x.after(0, 3, 1), 0);
        due("none again", d.x.after(0, 6, 2), 0);
        due("on paper", d.text(), "(s (s (s z)))");
        due("nothing to be undone", d.x.count(5), 1);
        due("n 0", d.x.after(0, 0, 0), -1);
        due("n 7", d.x.after(0, 7, 0), -1);
        due("way 2", d.x.after(2, 1, 0), -1);
        due("way -1", d.x.after(-1, 1, 0), -1);
        due("what 3", d.x.after(0, 1, 3), -1);
        due("what -1", d.x.after(0, 1, -1), -1);
        Desk e = Desk.with("a", "a = b", "b = c", "c = a");
        due("2 of 3", e.x.after(0, 2, 2), 0);
        due("3 of 3", e.x.after(0, 3, 2), 1);
        due("6", e.x.after(0, 6, 2), 1);
        Desk g = Desk.with("a", "a = b", "b = c", "c = d", "d = c");
        due("not the one now", g.x.after(0, 3, 2), 0);
        due("a later one", g.x.after(0, 4, 2), 1);
        due("the same at once", Desk.with("a", "a = a").x.after(1, 1, 2), 1);
        due("sign by sign", Desk.with("(f  a)", "(f ?A) = (f ?A)").x.after(1, 1, 2), 0);
        due("sign by sign, then", Desk.with("(f  a)", "(f ?A) = (f ?A)").x.after(1, 2, 2), 1);
        Desk h = Desk.with("(f a)", "(f *A) = (f *A *A)");
        due("at which it would stop, signs", h.x.after(0, 6, 0), 19);
        due("at which it would stop, edits", h.x.after(0, 6, 1), 1);
        due("no edit", Desk.with("(f a)", "b = c").x.after(0, 6, 0), 5);
        due("six rounds of growth", Desk.with("a", "a = (f a)").x.after(0, 6, 0), 25);
    }

    private static void undo() {
        promise(27);
        Desk d = new Desk();
        due("none", d.x.undo(), -3);
        for (int i = 1; i <= 10; i++) {
            d.source("" + i);
        }
        due("8 at most", d.x.count(5), 8);
        for (int i = 9; i >= 2; i--) {
            due("undo to " + i, d.x.undo(), i - 2);
            due("text " + i, d.text(), "" + i);
        }
        due("no more", d.x.undo(), -3);
        due("stays", d.text(), "2");
        d.source("(f a)");
        d.rule("a = b");
        d.x.apply(0);
        d.x.rounds(0, 3);
        d.source("(");
        due("what was not done does not count", d.x.count(5), 2);
        due("undo apply", d.x.undo(), 1);
        due("text", d.text(), "(f a)");
        due("rules are not undone", d.x.count(3), 1);
        due("undo source", d.x.undo(), 0);
        due("text of old", d.text(), "2");
        due("nodes of old", d.x.count(0), 1);
    }

    private static void keep() {
        promise(28);
        Desk d = Desk.with("(f a)", "a = b");
        due("0", d.x.keep(0), true);
        due("1", d.x.keep(1), true);
        due("2", d.x.keep(2), false);
        due("-1", d.x.keep(-1), false);
        due("least", d.x.keep(MIN), false);
        due("what can be had back", d.x.count(5), 1);
        due("text", d.text(), "(f a)");
        d.source("c");
        d.x.keep(0);
        d.x.again(0);
        due("kept anew", d.text(), "c");
        d.x.again(1);
        due("the other stays", d.text(), "(f a)");
    }

    private static void again() {
        promise(29);
        Desk d = Desk.with("(f[x] a)", "a = b", "b = c", "c = d");
        d.x.drop(1);
        due("nothing kept", d.x.again(0), false);
        d.x.keep(1);
        due("nothing kept under 0", d.x.again(0), false);
        d.source("(g b)");
        d.x.drop(0);
        d.rule("z = z");
        d.rule("y = z");
        d.type("b");
        due("2", d.x.again(2), false);
        due("-1", d.x.again(-1), false);
        due("past stays", d.x.count(5), 2);
        due("1", d.x.again(1), true);
        due("text", d.text(), "(f[x] a)");
        due("comments", d.x.count(2), 1);
        due("rules", d.x.count(3), 2);
        due("rule 0", d.x.rulesOf(1), 1);
        due("rule 1", d.x.told(1, 0), -1);
        due("rule 2", d.x.told(2, 0), 1);
        due("forgets", d.x.count(5), 0);
        due("undo", d.x.undo(), -3);
        due("what is typed stays", d.x.count(4), 1);
        d.x.drop(0);
        d.x.apply(0);
        due("again", d.x.again(1), true);
        due("kept yet", d.x.count(3), 2);
        d.x.keep(0);
        d.source("q");
        due("0", d.x.again(0), true);
        due("text of 0", d.text(), "(f[x] a)");
        due("a rule takes the number", d.x.end(0) ? d.rule("x = y") : -9, 1);
    }

    private static void count() {
        promise(30);
        Desk d = Desk.with("[x](f (g 1) a)", "a = b", "c = d");
        d.type("abc");
        int[] want = {4, 14, 1, 2, 3, 1, 3};
        for (int what = 0; what < 7; what++) {
            due("count " + what, d.x.count(what), want[what]);
        }
        due("count 7", d.x.count(7), -1);
        due("count -1", d.x.count(-1), -1);
        due("count least", d.x.count(MIN), -1);
        due("one alone", new Desk().x.count(6), 1);
        d.source("a");
        due("nothing stays of a deeper one", d.x.count(6), 1);
        due("17", Desk.with(Desk.many("(f", 16) + " a" + Desk.many(")", 16)).x.count(6), 17);
    }

    /** All that there may be at once: 60 NODES, 8 RULES, 20 of a PATTERN and of a PUT within one another. */
    private static void fullHouse() {
        Desk.promise = "at the bounds";
        String full = "(f" + Desk.many("(g" + Desk.many(" a", 11) + ")", 4) + Desk.many(" a", 7) + "(h a a a))";
        Desk d = Desk.with(full, "z = 1", "(q *A *B) = 1", "y = 1", "x = 1", "w = 1", "v = 1", "u = 1", "a = b");
        due("nodes", d.x.count(0), 60);
        due("twins of a", d.x.twins(59, 0), 54);
        due("twins of g", d.x.twins(37, 0), 4);
        due("found", d.x.found(7, -1), 54);
        due("the last found", d.x.found(7, 53), 59);
        due("behind the last", d.x.found(7, 54), -1);
        due("rules", d.x.rulesOf(59), 128);
        due("edits", d.x.edit(0, -1, 0), 54);
        due("edits from inside", d.x.edit(1, -1, 0), 54);
        due("the last edit", d.x.edit(1, 53, 1), 59);
        due("asked", d.x.asked(59), 8);
        due("within", d.x.count(6), 3);
        due("apply", d.x.apply(1), 54);
        due("text", d.text(), full.replace("a", "b"));
        String deepest = Desk.many("(f", 20) + Desk.many(")", 20);
        Desk e = Desk.with("a", "a = " + deepest, deepest + " = a", Desk.many("(f", 19) + " ?A" + Desk.many(")", 19) + " = ?A");
        due("20 within one another", e.comes(0, 0), deepest.replace("f(", "f ("));
        due("tests", e.x.tests(0), 1 + 40 + 38);
        due("shared", e.x.tests(1), 1 + 40);
        due("can't be", e.x.apply(0), -3);
        String inside = Desk.many("(f", 15) + "(f)" + Desk.many(")", 15);
        due("asked to the bottom", Desk.with(inside, deepest + " = a").x.asked(0), 32);
        Desk g = Desk.with("(f a)");
        for (int i = 0; i < 8; i++) {
            g.rule("(f" + Desk.many(" ?A:n", 19 - i) + ") = ?A");
        }
        due("8 rules of the most tests", g.x.tests(0), (39 + 37 + 35 + 33 + 31 + 29 + 27 + 25));
        due("8 rules of the most tests, shared", g.x.tests(1), (39 + 37 + 35 + 33 + 31 + 29 + 27 + 25) - 7);
    }
}
