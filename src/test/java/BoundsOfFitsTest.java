/** Terms 2: each sentence that names a bound, or what does not count, of ALIKE, FITS, WAYS and TESTS. */
public final class BoundsOfFitsTest {
    private static final int A = 0;
    private static final int B = 1;
    private static final int C = 2;
    private static final int N = 13;

    public static void main(String[] args) {
        sameSigns();
        sameParts();
        sameRows();
        anyAndKinds();
        deep();
        justThese();
        heads();
        rows();
        sameLetter();
        whatIsChosen();
        firstWay();
        firstStanding();
        orderOfTests();
        testsOfSigns();
        testsOfTerms();
        eachAtItsPath();
        testsOfHoles();
        testsOfRows();
        testsOfDeep();
        before();
        paths();
        sharedTree();
        alikeTests();
        askedOf();
        Desk.close("BoundsOfFitsTest");
    }

    private static void says(String sentence) {
        Desk.says("Terms 2", sentence);
    }

    private static void checkWays(String source, String pattern, int want) {
        Desk.due("ways of " + pattern + " in " + source, Desk.with(source, pattern + " = q").x.ways(0, 0), want);
    }

    private static void checkAlike(String a, String b, int want) {
        Desk d = Desk.with("(k " + a + " " + b + ")");
        int second = 1 + d.x.node(1, 6);
        Desk.due(a + " alike " + b, d.x.alike(1, second), want);
        Desk.due(b + " alike " + a, d.x.alike(second, 1), want);
        checkWays("(k " + a + " " + b + ")", "(k ?A ?A)", want);
    }

    private static void checkHeld(String source, String pattern, int letter, int first, int many) {
        Desk d = Desk.with(source, pattern + " = q");
        String what = "HELD by " + letter + " of " + pattern + " in " + source;
        Desk.due(what, d.x.held(0, 0, letter, 0), first);
        Desk.due(what + ", how many", d.x.held(0, 0, letter, 1), many);
    }

    private static void checkTold(String pattern, int want) {
        Desk.due("TESTS of " + pattern, Desk.with("a", pattern + " = q").x.told(0, 0), want);
    }

    private static void checkShared(int all, int shared, String... patterns) {
        Desk d = new Desk();
        for (String p : patterns) {
            Desk.due("rule " + p, d.rule(p + " = q") >= 0, true);
        }
        Desk.due("TESTS of " + String.join(", ", patterns), d.x.tests(0), all);
        Desk.due("SHARED of " + String.join(", ", patterns), d.x.tests(1), shared);
        Desk.due("SHARED, asked again", d.x.tests(1), shared);
    }

    private static void checkAsked(int want, String source, String... patterns) {
        Desk d = Desk.with(source);
        for (String p : patterns) {
            Desk.due("rule " + p, d.rule(p + " = q") >= 0, true);
        }
        Desk.due("ASKED of " + source + " by " + String.join(", ", patterns), d.x.asked(0), want);
    }

    private static void sameSigns() {
        says("ALIKE are two NODES of the same KIND and signs (0s ahead count)");
        checkAlike("a", "a", 1);
        checkAlike("a", "b", 0);
        checkAlike("a", "aa", 0);
        checkAlike("aaaaaaaa", "aaaaaaaa", 1);
        checkAlike("aaaaaaaa", "aaaaaaab", 0);
        checkAlike("1", "1", 1);
        checkAlike("1", "01", 0);
        checkAlike("0", "00", 0);
        checkAlike("0001", "0001", 1);
        checkAlike("0001", "0002", 0);
        checkAlike("a", "(a)", 0);
        checkAlike("a", "1", 0);
    }

    private static void sameParts() {
        says("of KIND c with the same HEAD, as many PARTS, each ALIKE;");
        checkAlike("(f)", "( [x]f\n)", 1);
        checkAlike("(f)", "(g)", 0);
        checkAlike("(f)", "(f a)", 0);
        checkAlike("(f a)", "(f a a)", 0);
        checkAlike("(f a 1)", "(f a 1)", 1);
        checkAlike("(f a 1)", "(f a 2)", 0);
        checkAlike("(f 1 a)", "(f a 1)", 0);
        checkAlike("(f (g a) b)", "(f (g a b))", 0);
        checkAlike("(f (g) a)", "(f (g a))", 0);
        checkAlike("(f (g (h 1)))", "(f[x](g[y](h[z]1)))", 1);
        checkAlike("(f (g (h 1)))", "(f (g (h 01)))", 0);
        String twelve = "(f" + Desk.many(" a", 11);
        checkAlike(twelve + " a)", twelve + " a)", 1);
        checkAlike(twelve + " a)", twelve + " b)", 0);
    }

    private static void sameRows() {
        says("rows of NODES, if they are as many, each ALIKE.");
        checkWays("(f (g a b) (h a b))", "(f (g *A) (h *A))", 1);
        checkWays("(f (g a b) (h a))", "(f (g *A) (h *A))", 0);
        checkWays("(f (g a) (h a b))", "(f (g *A) (h *A))", 0);
        checkWays("(f (g a b) (h a c))", "(f (g *A) (h *A))", 0);
        checkWays("(f (g) (h))", "(f (g *A) (h *A))", 1);
        checkWays("(f (g) (h a))", "(f (g *A) (h *A))", 0);
        checkWays("(f (g (k a)) (h (k) a))", "(f (g *A) (h *A))", 0);
        checkWays("(f (g (k a) b) (h (k a b)))", "(f (g *A) (h *A))", 0);
    }

    private static void anyAndKinds() {
        says("A PATTERN FITS a NODE: _ any; ?L any, of that KIND, if one is told;");
        String[] sources = {"12", "ab", "(f a)"};
        for (int i = 0; i < 3; i++) {
            checkWays(sources[i], "_", 1);
            checkWays(sources[i], "?A", 1);
            checkWays(sources[i], "?A:n", i == 0 ? 1 : 0);
            checkWays(sources[i], "?A:w", i == 1 ? 1 : 0);
            checkWays(sources[i], "?A:c", i == 2 ? 1 : 0);
        }
        checkWays("(f 1 1)", "(f ?A:n ?A:w)", 0);
        checkWays("(f 1 1)", "(f ?A ?A:n)", 1);
    }

    private static void deep() {
        says("^ P, if P FITS it or a NODE in it;");
        checkWays("a", "^ a", 1);
        checkWays("b", "^ a", 0);
        checkWays("(a)", "^ a", 0);
        checkWays("(f (g (h (i a))))", "^ a", 1);
        checkWays("(f a)", "^ (f a)", 1);
        checkWays("(f a (f a))", "^ (f a)", 1);
        checkWays("(f (f) (f))", "^ (f)", 2);
        String deepest = Desk.many("(f", 16) + " a" + Desk.many(")", 16);
        checkWays(deepest, "^ _", 17);
        checkWays(deepest, "^ a", 1);
        Desk d = Desk.with("(f (g a) a)", "^ a = q");
        Desk.due("none beside it", d.x.ways(0, 1), 1);
    }

    private static void justThese() {
        says("WORD, NUMBER one of these signs;");
        checkWays("abcdefgh", "abcdefgh", 1);
        checkWays("abcdefgh", "abcdefg", 0);
        checkWays("abcdefg", "abcdefgh", 0);
        checkWays("abcdefgh", "abcdefgi", 0);
        checkWays("0012", "0012", 1);
        checkWays("0012", "012", 0);
        checkWays("12", "012", 0);
        checkWays("(a)", "a", 0);
    }

    private static void heads() {
        says("( WORD .. ) one of that HEAD, if what is behind goes with its PARTS, from the left, each one with one PART that it FITS");
        checkWays("(f)", "(f)", 1);
        checkWays("f", "(f)", 0);
        checkWays("(g)", "(f)", 0);
        checkWays("(ff)", "(f)", 0);
        checkWays("(f a)", "(f)", 0);
        checkWays("(f)", "(f a)", 0);
        checkWays("(f a b)", "(f a b)", 1);
        checkWays("(f a b)", "(f b a)", 0);
        checkWays("(f a b)", "(f a)", 0);
        checkWays("(f a b)", "(f a b _)", 0);
        String twelve = "(f" + Desk.many(" a", 12) + ")";
        checkWays(twelve, twelve, 1);
        checkWays(twelve, "(f" + Desk.many(" _", 13) + ")", 0);
        checkWays(twelve, "(f" + Desk.many(" _", 11) + ")", 0);
    }

    private static void rows() {
        says("*L with any row of PARTS, or none.");
        String[] sources = {"(f)", "(f a)", "(f a b)", "(f" + Desk.many(" a", 12) + ")"};
        int[] parts = {0, 1, 2, 12};
        for (int i = 0; i < 4; i++) {
            checkHeld(sources[i], "(f *A)", A, i == 0 ? -1 : 1, parts[i]);
            checkWays(sources[i], "(f *A *B)", parts[i] + 1);
            checkWays(sources[i], "(f *A _ *B)", parts[i]);
            checkWays(sources[i], "(f _ *A _)", parts[i] >= 2 ? 1 : 0);
            checkWays(sources[i], "(f *A" + Desk.many(" _", 12) + ")", parts[i] == 12 ? 1 : 0);
            checkWays(sources[i], "(f" + Desk.many(" _", 13) + " *A)", 0);
        }
        checkWays("(g)", "(f *A)", 0);
        checkWays("f", "(f *A)", 0);
    }

    private static void sameLetter() {
        says("An L that stands more than once holds what is ALIKE each time.");
        checkWays("(f a a a)", "(f ?A ?A ?A)", 1);
        checkWays("(f a a b)", "(f ?A ?A ?A)", 0);
        checkWays("(f a b a)", "(f ?A ?A ?A)", 0);
        checkWays("(f b a a)", "(f ?A ?A ?A)", 0);
        checkWays("(f a (g (h a)))", "(f ?A (g (h ?A)))", 1);
        checkWays("(f a (g (h b)))", "(f ?A (g (h ?A)))", 0);
        checkWays("(f (g a b) a)", "(f ^ ?A ?A)", 1);
        checkWays("(f (g a a) a)", "(f ^ ?A ?A)", 2);
        checkWays("(f a b a b)", "(f *A *A)", 1);
        checkWays("(f)", "(f *A *A)", 1);
        checkWays("(f a a a a)", "(f *A *A)", 1);
        checkWays("(f a)", "(f *A *A)", 0);
    }

    private static void whatIsChosen() {
        says("A WAY: what is chosen for each *L, and for the ^;");
        checkWays("(f a b)", "(f *A *B)", 3);
        checkWays("(f (g a) b)", "(f *A ^ _ *B)", 3);
        checkWays("(f a b (g a b))", "(f *A _ (g *B _))", 1);
        checkWays("(f (f (f)))", "^ (f *A *B)", 2 + 2 + 1);
    }

    private static void firstWay() {
        says("the first one: by what comes first in the PATTERN, *L as few PARTS as can be, ^ the NODE itself, then those in it by numbers.");
        checkHeld("(f a b c)", "(f *A *B)", A, -1, 0);
        checkHeld("(f a b c)", "(f *A *B)", B, 1, 3);
        checkHeld("(f a b b b)", "(f *A b *B)", A, 1, 1);
        checkHeld("(f a b b b)", "(f *A b *B)", B, 3, 2);
        checkHeld("(f a a 1 2)", "(f *A ?N:n *B)", A, 1, 2);
        checkHeld("(f (g 1) (g 2))", "(f *A ^ ?N:n *B)", N, 2, 1);
        checkHeld("(f a (g b) (g 2))", "(f *A ^ ?N:n *B)", N, 5, 1);
        checkHeld("(f (f (f)))", "^ ?A:c", A, 0, 1);
        checkHeld("(f a (g 1) 2)", "^ ?N:n", N, 3, 1);
        checkHeld("(f (g (h 1) 2) (h 3))", "^ (h ?N)", N, 3, 1);
        checkHeld("(f (g 1 2) 2 1)", "(f ^ ?N:n *A ?N *B)", N, 2, 1);
        checkHeld("(f (g 1 2) 2 1)", "(f ^ ?N:n *A ?N *B)", A, 4, 1);
        checkHeld("(f (g 1 2) 2 3)", "(f ^ ?N:n *A ?N *B)", N, 3, 1);
        checkHeld("(f 2 1 (g 1 2))", "(f *A ?N *B ^ ?N)", N, 1, 1);
    }

    private static void firstStanding() {
        says("HELD by an L in a WAY: the NODE, or row, at its first standing.");
        checkHeld("(f a b a)", "(f ?A _ ?A)", A, 1, 1);
        checkHeld("(f (g b) b)", "(f (g ?B) ?B)", B, 2, 1);
        checkHeld("(f (g a b) a b)", "(f (g *C) *C)", C, 2, 2);
        checkHeld("(f a b (g a b))", "(f *C (g *C))", C, 1, 2);
        checkHeld("(f (g))", "(f *C (g *C))", C, -1, 0);
        checkHeld("(f a (g a))", "(f ?A ^ ?A)", A, 1, 1);
        checkHeld("(f (g b a) a)", "(f ^ ?A ?A)", A, 3, 1);
    }

    private static void orderOfTests() {
        says("TESTS of a PATTERN, in the order of its signs from the left");
        checkAsked(3, "(f b 2)", "(f a 1)");
        checkAsked(4, "(f a 2)", "(f a 1)");
        checkAsked(3, "(f (g 1) b)", "(f (h 1) a)");
        checkAsked(6, "(f (g 1) b)", "(f (g 1) a)");
        checkAsked(5, "(f (g 1) a)", "(f (g 2) a)");
        checkAsked(4, "(f (g) a)", "(f (g 2) a)");
    }

    private static void testsOfSigns() {
        says("of a WORD, NUMBER at a PATH that it is just that;");
        checkTold("a", 1);
        checkTold("12", 1);
        checkTold("_", 0);
        checkTold("(f a 1)", 4);
        checkAsked(3, "(f (a) b)", "(f a c)");
        checkAsked(3, "(f aa b)", "(f a c)");
        checkAsked(3, "(f 01 b)", "(f 1 c)");
        checkAsked(4, "(f 01 b)", "(f 01 c)");
    }

    private static void testsOfTerms() {
        says("of ( WORD .. ) that it is of KIND c with that HEAD, then that it has as many PARTS, if there is no *L in it;");
        checkTold("(f)", 2);
        checkTold("(f _)", 2);
        checkTold("(f (g) (h))", 6);
        checkTold(Desk.many("(f", 20) + Desk.many(")", 20), 40);
        checkAsked(1, "f", "(f a)");
        checkAsked(1, "(g a)", "(f a)");
        checkAsked(2, "(f)", "(f a)");
        checkAsked(2, "(f a a)", "(f a)");
        checkAsked(3, "(f b)", "(f a)");
    }

    private static void eachAtItsPath() {
        says("then those of what is in it, each at its own PATH;");
        checkTold("(f _ (g 1 ?A:n) b)", 7);
        checkAsked(6, "(f 9 (g 1 b) c)", "(f _ (g 1 ?A:n) b)");
        checkAsked(7, "(f 9 (g 1 2) c)", "(f _ (g 1 ?A:n) b)");
        checkAsked(5, "(f 1 (g 9 1) b)", "(f _ (g 1 ?A:n) b)");
    }

    private static void testsOfHoles() {
        says("of ?L:K the KIND; of ?L that stood at a PATH before that it is ALIKE with that;");
        checkTold("?A", 0);
        checkTold("?A:n", 1);
        checkTold("(f ?A ?B)", 2);
        checkTold("(f ?A ?A)", 3);
        checkTold("(f ?A ?A ?A)", 4);
        checkTold("(f ?A:n ?A)", 4);
        checkTold("(f ?A ?A:n)", 4);
        checkTold("(f ?A (g ?A))", 5);
        checkAsked(3, "(f a b c)", "(f ?A ?A c)");
        checkAsked(4, "(f a a c)", "(f ?A ?A c)");
        checkAsked(3, "(f a c)", "(f ?A:n c)");
        checkAsked(4, "(f 1 c)", "(f ?A:n c)");
    }

    private static void testsOfRows() {
        says("where there is a *L in a ( ) (not in one within it), one TEST in place of all these, that this ( ) FITS the NODE there by itself (whatever its L hold elsewhere), nothing of what is in it;");
        checkTold("(f *A)", 1);
        checkTold("(f *A *B)", 1);
        checkTold("(f a (g ?A:n 1) *B)", 1);
        checkTold("(f (g *A) b)", 4);
        checkTold("(f (g (h *A) 1) b)", 7);
        checkTold("(f (g *A) *B)", 1);
        checkAsked(4, "(f (g 1) 2)", "(f (g ?A *B) ?A:n)");
        checkAsked(4, "(f 2 (g 1) 3)", "(f ?A (g ?A *B) 4)");
        checkAsked(3, "(f 2 (h 1) 3)", "(f ?A (g ?A *B) 4)");
        checkAsked(3, "(f (g a b) 1)", "(f (g ?A ?A *B) 1)");
        checkAsked(4, "(f (g a a) 1)", "(f (g ?A ?A *B) 1)");
        checkAsked(4, "(f (g a b) (h c))", "(f (g *A) (h *A))");
        checkAsked(1, "(f a)", "(f *A b)");
    }

    private static void testsOfDeep() {
        says("likewise one for ^ P.");
        checkTold("^ a", 1);
        checkTold("^ _", 1);
        checkTold("^ (f a (g *A))", 1);
        checkTold("(f ^ (g 1 2) 1)", 4);
        checkAsked(3, "(f (g b) 1)", "(f ^ a 1)");
        checkAsked(4, "(f (g a) 1)", "(f ^ a 1)");
        checkAsked(4, "(f 1 (g 2) 3)", "(f ?A ^ ?A 4)");
    }

    private static void before() {
        says("(\"Before\" are those ?L alone that have such a PATH.)");
        checkTold("(f (g ?A *B) ?A)", 3);
        checkTold("(f (g ?A *B) ?A ?A)", 4);
        checkTold("(f ^ ?A ?A)", 3);
        checkTold("(f ^ ?A ?A ?A)", 4);
        checkTold("(f ?A (g ?A *B) ?A)", 4);
        checkTold("(f ?A ^ ?A ?A)", 4);
        checkAsked(5, "(f (g 2) 1 1 6)", "(f (g ?A *B) ?A ?A 5)");
        checkAsked(4, "(f (g 1) 1 2 5)", "(f (g ?A *B) ?A ?A 5)");
        checkAsked(4, "(f (g 1) 2 5)", "(f ^ ?A:n ?A 6)");
    }

    private static void paths() {
        says("PATH: the NODE itself, or which PART of which PATH.");
        checkAsked(7, "(f a (g b (h c d)))", "(f a (g b (k c d)))");
        checkAsked(9, "(f a (g b (h c d)))", "(f a (g b (h d c)))");
        checkAsked(10, "(f a (g b (h c d)))", "(f a (g b (h c c)))");
        checkAsked(5, "(f (g b a) (g a b))", "(f _ (g b a))");
        checkAsked(6, "(f (g a b) (g b a))", "(f _ (g b b))");
        checkShared(6, 4, "(f a _)", "(f _ a)");
        checkShared(6, 4, "(f ^a _)", "(f _ ^a)");
        checkShared(10, 6, "(f (g a) _)", "(f (g b) _)");
    }

    private static void sharedTree() {
        says("SHARED: of all RULES, by numbers, rows of TESTS are laid into one tree: those that begin alike have that beginning in common.");
        checkShared(0, 0);
        checkShared(0, 0, "_", "?A");
        checkShared(2, 1, "a", "a");
        checkShared(2, 2, "a", "b");
        checkShared(8, 4, "(f a 1)", "(f a 1)");
        checkShared(8, 5, "(f a 1)", "(f a 2)");
        checkShared(8, 6, "(f a 1)", "(f b 1)");
        checkShared(7, 6, "(f a 1)", "(f a)");
        checkShared(5, 3, "(f a)", "(f _)");
        checkShared(6, 4, "(f a)", "(f b)");
        checkShared(4, 3, "a", "b", "c", "a");
        checkShared(4, 3, "a", "b", "c", "b");
        checkShared(4, 3, "a", "b", "c", "c");
        checkShared(12, 5, "(f a)", "(f b)", "(f c)", "(f a)");
        checkShared(12, 5, "(f a)", "(f b)", "(f c)", "(f b)");
        checkShared(8, 1, "a", "a", "a", "a", "a", "a", "a", "a");
        checkShared(8, 8, "a", "b", "c", "d", "e", "f", "g", "h");
        Desk d = Desk.with("a", "(f a) = q", "(f b) = q", "(f c) = q");
        d.x.drop(1);
        Desk.due("TESTS, one dropped", d.x.tests(0), 6);
        Desk.due("SHARED, one dropped", d.x.tests(1), 4);
        Desk puts = Desk.with("a", "(f *A) = 1", "(f *A) = 2", "(f *A) = (g *A)", "^ a = 1", "^ a = 2");
        Desk.due("whatever the PUT", puts.x.tests(1), 2);
        Desk anew = Desk.with("a", "(f b) = q", "(f c) = q", "(f d) = q");
        Desk.due("SHARED at first", anew.x.tests(1), 5);
        for (int i = 0; i < 3; i++) {
            anew.x.drop(i);
        }
        anew.rule("(f _) = q");
        anew.rule("(g a) = q");
        anew.rule("(f a) = q");
        Desk.due("nothing stays of those that went", anew.x.tests(1), 6);
    }

    private static void alikeTests() {
        says("(Alike are TESTS that ask the same of the same PATH; those of a ( ) with *L and of ^ P, if their TOKENS are the same.)");
        checkShared(2, 2, "a", "?A:w");
        checkShared(2, 2, "?A:n", "?A:w");
        checkShared(2, 1, "?A:n", "?B:n");
        checkShared(6, 3, "(f ?A ?A)", "(f ?B ?B)");
        checkShared(3, 3, "(a)", "a");
        checkShared(4, 3, "(f)", "(f _)");
        checkShared(4, 4, "(f)", "(g)");
        checkShared(2, 2, "1", "01");
        checkShared(2, 1, "(f *A)", "( f  *A )");
        checkShared(2, 2, "(f *A)", "(f *B)");
        checkShared(2, 2, "(f *A)", "(g *A)");
        checkShared(2, 2, "(f *A)", "(f *A *A)");
        checkShared(2, 2, "(f *A a)", "(f *A b)");
        checkShared(2, 2, "(f *A ?B)", "(f *A ?B:n)");
        checkShared(2, 2, "(f *A (g a))", "(f *A (g) a)");
        checkShared(2, 2, "(f ?B *A)", "(f ?C *A)");
        checkShared(2, 1, "^ (f a)", "^(f  a)");
        checkShared(2, 2, "^ a", "^ b");
        checkShared(2, 2, "^ ?A", "^ ?B");
        checkShared(2, 2, "^ (f *A)", "(f *A)");
    }

    private static void askedOf() {
        says("ASKED of a NODE: of how many TESTS of that tree it is asked: those at the top, and those below one that was asked and is so.");
        checkAsked(0, "a");
        checkAsked(0, "a", "_", "?A");
        checkAsked(1, "b", "a", "a");
        checkAsked(2, "b", "a", "c");
        checkAsked(3, "b", "a", "(f a)", "(g *A)");
        checkAsked(4, "(f b)", "(f a)", "(f c)");
        checkAsked(4, "(f a)", "(f a)", "(f b)");
        checkAsked(6, "(f a b)", "(f a c)", "(f b c)", "(f c c)");
        checkAsked(2, "(f a b)", "(f a)", "(f b)");
        checkAsked(3, "(f a b)", "(f a)", "(f a b c)");
        checkAsked(8, "a", "a", "b", "c", "d", "e", "f", "g", "h");
        Desk d = Desk.with("(f a)", "(f b) = q");
        Desk.due("of NODE 0", d.x.asked(0), 3);
        Desk.due("of NODE 1", d.x.asked(1), 1);
        d.x.drop(0);
        Desk.due("no RULE left", d.x.asked(0), 0);
    }
}
