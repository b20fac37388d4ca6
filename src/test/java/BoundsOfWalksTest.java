/** Terms 3 and its last paragraphs: each sentence that names a bound, or what can't be, of EDITS and what stays. */
public final class BoundsOfWalksTest {
    private static final int OUTSIDE = 0;
    private static final int INSIDE = 1;

    public static void main(String[] args) {
        leastRule();
        fromOutside();
        fromInside();
        firstWay();
        orderOfEdits();
        carried();
        puts();
        holes();
        emptyRows();
        allElseStays();
        blanksBeside();
        oneBlankAlone();
        thenTheSource();
        mostSigns();
        bounds();
        textIsEmptied();
        boundsOfSourceAlone();
        headsDoNotCount();
        whatCannotStand();
        toldApart();
        between();
        innermost();
        roundsStop();
        afterStops();
        keepLeaves();
        countFromZero();
        nothingIsKept();
        latestEight();
        notUndone();
        forgets();
        refused();
        lastCall();
        Desk.close("BoundsOfWalksTest");
    }

    private static void says(String sentence) {
        Desk.says("Terms 3", sentence);
    }

    private static String many(String part, int n) {
        return Desk.many(part, n);
    }

    private static String editsOf(Desk d, int way) {
        StringBuilder s = new StringBuilder();
        int edits = d.x.edit(way, -1, 0);
        for (int i = 0; i < edits; i++) {
            s.append(i == 0 ? "" : " ").append(d.x.edit(way, i, 1)).append(':').append(d.x.edit(way, i, 0));
        }
        return s.toString();
    }

    private static void checkEdits(int way, String want, String source, String... rules) {
        Desk.due("EDITS of " + source, editsOf(Desk.with(source, rules), way), want);
    }

    private static void checkComes(String source, String rule, String want) {
        Desk d = Desk.with(source, rule);
        Desk.due("what comes of " + source + " by " + rule, d.comes(OUTSIDE, 0), want);
        Desk.due("how many signs", d.x.edit(OUTSIDE, 0, 2), want.length());
    }

    private static void checkApplied(String want, String source, String... rules) {
        Desk d = Desk.with(source, rules);
        Desk.due("would(0, 0) of " + source, d.x.would(OUTSIDE, 0), want.length());
        d.x.apply(OUTSIDE);
        Desk.due(source + " APPLIED", d.text(), want);
    }

    /** What can't be changes nothing, whether it is asked or tried, once or in rounds. */
    private static void checkCannot(String source, String... rules) {
        Desk d = Desk.with(source, rules);
        for (int way = OUTSIDE; way <= INSIDE; way++) {
            for (int what = 0; what <= 2; what++) {
                Desk.due("would(" + way + ", " + what + ") of " + source, d.x.would(way, what), -3);
            }
            Desk.due("apply(" + way + ") of " + source, d.x.apply(way), -3);
            Desk.due("rounds(" + way + ", 6) of " + source, d.x.rounds(way, 6), 0);
            Desk.due("after(" + way + ", 6, 0) of " + source, d.x.after(way, 6, 0), source.length());
        }
        Desk.due("nothing to be undone", d.x.count(5), 1);
        Desk.due("the SOURCE stays", d.text(), source);
    }

    private static void leastRule() {
        says("EDITS of a WALK (WAY 0: from outside; 1: from inside): each a NODE and a RULE that FITS it, the least such.");
        checkEdits(OUTSIDE, "0:1", "a", "b = 1", "_ = 2", "a = 3");
        checkEdits(INSIDE, "0:1", "a", "b = 1", "_ = 2", "a = 3");
        checkEdits(OUTSIDE, "0:7", "a", "b = 1", "b = 1", "b = 1", "b = 1", "b = 1", "b = 1", "b = 1", "a = 1");
        checkEdits(OUTSIDE, "", "a");
        checkEdits(OUTSIDE, "", "a", "b = 1");
        Desk d = Desk.with("a", "a = 0", "a = 1");
        d.x.drop(0);
        Desk.due("the least that is left", editsOf(d, OUTSIDE), "0:1");
    }

    private static void fromOutside() {
        says("From outside: NODES by numbers, but none in the PLACE of an EDIT.");
        checkEdits(OUTSIDE, "0:0", "(f (f (f a)))", "(f _) = 1");
        checkEdits(OUTSIDE, "1:0 4:0", "(h (f (f a)) (f a))", "(f _) = 1");
        checkEdits(OUTSIDE, "1:0 3:1", "(h (f a) a)", "(f _) = 1", "a = 2");
        checkEdits(OUTSIDE, "0:1", "(h (f a) a)", "(f _) = 1", "(h *A) = 2");
        checkEdits(OUTSIDE, "2:0 3:0", "(h (f a) a)", "a = 2");
    }

    private static void fromInside() {
        says("From inside: NODES in the order of their last signs, but none in which an EDIT is.");
        checkEdits(INSIDE, "2:0", "(f (f (f a)))", "(f _) = 1");
        checkEdits(INSIDE, "2:0 4:0", "(h (f (f a)) (f a))", "(f _) = 1");
        checkEdits(INSIDE, "2:1 3:1", "(f (f a) a)", "(f *A) = 1", "a = 2");
        checkEdits(INSIDE, "1:0 3:1", "(f (f b) a)", "(f *A) = 1", "a = 2");
        checkEdits(INSIDE, "0:0", "(h (f a) a)", "(h *A) = 1");
    }

    private static void firstWay() {
        says("The first WAY in which it FITS.");
        checkComes("(f a b c)", "(f *A ?B *C) = (g *C ?B *A)", "(g b c a)");
        checkComes("(f (g 1) 2)", "^ ?N:n = (h ?N)", "(h 1)");
    }

    private static void orderOfEdits() {
        says("EDITS are counted in the order of their PLACES.");
        checkEdits(OUTSIDE, "1:1 2:0 3:1", "(f b a b)", "a = 1", "b = 2");
        checkEdits(INSIDE, "2:1 3:0 4:1", "(f (f b a) b)", "a = 1", "b = 2");
        checkEdits(INSIDE, "2:0 3:0", "(f (g a) a)", "a = 1", "(g _) = 2");
    }

    private static void carried() {
        says("The signs that come in place of a NODE: all COMMENTS in its PLACE that lie in no text HELD by an L of the PUT, in their order, a blank behind each;");
        checkComes("(f[1]a[2])", "(f a) = b", "[1] [2] b");
        checkComes("([1]f(g[2]a)[3]b)", "(f ?A ?B) = ?A", "[1] [3] (g[2]a)");
        checkComes("([1]f(g[2]a)[3]b)", "(f ?A ?B) = ?B", "[1] [2] [3] b");
        checkComes("(f[1](g[2])[3](g[4]))", "(f ?A ?A) = ?A", "[1] [3] [4] (g[2])");
        checkComes("(f[1]a[2]b[3]c[4])", "(f *A) = (g *A)", "[1] [4] (g a[2]b[3]c)");
        checkComes("(f[1]a[2]b[3])", "(f ?A *B) = (g *B)", "[1] [2] [3] (g b)");
        checkComes("(f (g[1]a)[2](h[3]b))", "(f ?A ?B) = (k ?B ?A)", "[2] (k (h[3]b) (g[1]a))");
        checkComes("[0](f a)[1]", "(f ?A) = ?A", "a");
        checkComes("(f a)", "(f ?A) = b", "b");
        String most = "(f *A" + many(" a", 11) + ")";
        checkComes("(f[1]b[2]" + many(" a", 11) + ")", most + " = (g" + many(" *A", 19) + ")", "[1] [2] (g" + many(" b", 19) + ")");
        Desk two = Desk.with("(k (f (g[1]a) b[2]c) (h[3]1))", "(f ?A *B) = (m ?A *B)", "(h *A 1) = (n 5 *A)");
        Desk.due("the first of two EDITS", two.comes(OUTSIDE, 0), "(m (g[1]a) b[2]c)");
        Desk.due("the second, nothing stays of the first", two.comes(OUTSIDE, 1), "[3] (n 5)");
        two.x.apply(OUTSIDE);
        Desk.due("both APPLIED", two.text(), "(k (m (g[1]a) b[2]c) [3] (n 5))");
        Desk d = Desk.with("(f" + many("[]", 148) + ")", "(f) = (g)");
        Desk.due("148 of them", d.x.edit(OUTSIDE, 0, 3), 148);
        Desk.due("signs", d.x.edit(OUTSIDE, 0, 2), 148 * 3 + 3);
        Desk.due("the last blank", d.x.comes(OUTSIDE, 0, 148 * 3 - 1), 32);
        Desk.due("behind it", d.x.comes(OUTSIDE, 0, 148 * 3), (int) '(');
    }

    private static void puts() {
        says("then the PUT: WORD, NUMBER as they are; ( and the WORD, a blank ahead of each that follows, );");
        checkComes("a", "a = bcdefghi", "bcdefghi");
        checkComes("a", "a = 0001", "0001");
        checkComes("a", "a =  (  f  )  ", "(f)");
        checkComes("a", "a = (f(g)(h 1(i))2)", "(f (g) (h 1 (i)) 2)");
        checkComes("a", "a = " + many("(f", 20) + many(")", 20), many("(f ", 19) + "(f" + many(")", 20));
        checkComes("a", "a = (f" + many("(g)", 19) + ")", "(f" + many(" (g)", 19) + ")");
        String twenty = "(f" + many(" (g a a a a a)", 3) + " ?A)";
        checkComes(twenty.replace("?A", "[1]7[2]"), twenty + " = (h" + many(" ?A", 19) + ")", "[1] [2] (h" + many(" 7", 19) + ")");
    }

    private static void holes() {
        says("?L the text of the NODE that is HELD, byte for byte as it is in the SOURCE, *L that from the first of its row to the last, likewise");
        checkComes("(f (g  a\n[x]1 ))", "(f ?A) = ?A", "(g  a\n[x]1 )");
        checkComes("(f   a  b[x]\n(g  1) )", "(f *A) = (h *A *A)", "(h a  b[x]\n(g  1) a  b[x]\n(g  1))");
        checkComes("(f  a )", "(f *A) = (h *A)", "(h a)");
        checkComes("( f  a )", "?A = (h ?A)", "(h ( f  a ))");
    }

    private static void emptyRows() {
        says("(of an empty row nothing, and no blank ahead of it)");
        checkComes("(f)", "(f *A) = (g *A)", "(g)");
        checkComes("(f)", "(f *A) = (g *A *A)", "(g)");
        checkComes("(f)", "(f *A *B) = (g *A 1 *B 2 *A)", "(g 1 2)");
        checkComes("(f)", "(f *A) = (g (h *A) *A)", "(g (h))");
        checkComes("(f[x])", "(f *A) = (g *A)", "[x] (g)");
    }

    private static void allElseStays() {
        says("APPLIED: all EDITS of a WALK at once, all else staying byte for byte");
        checkApplied(" [1]\n( [2]f  (b)[3]\n(g (b) )2  )[4]\n ", " [1]\n( [2]f  a[3]\n(g a )1  )[4]\n ", "a = (b)", "1 = 2");
        checkApplied("(f b a)", "(f a b)", "a = b", "b = a");
        checkApplied("(f a)", "(f a)", "b = c");
        checkApplied("\nb\n", "\na\n", "a = b");
    }

    private static void blanksBeside() {
        says("but that a blank is put ahead of what comes, or behind it, where else a letter would stand beside a letter, a digit beside a digit there");
        checkApplied("(f a)", "(f(g))", "(g) = a");
        checkApplied("(f1)", "(f(g))", "(g) = 1");
        checkApplied("(f 1 2)", "(f 1(g))", "(g) = 2");
        checkApplied("(f 1a)", "(f 1(g))", "(g) = a");
        checkApplied("(f a b)", "(f (g)b)", "(g) = a");
        checkApplied("(f 1b)", "(f (g)b)", "(g) = 1");
        checkApplied("(f 2 1)", "(f (g)1)", "(g) = 2");
        checkApplied("(f a z9)", "(f(g)z9)", "(g) = a");
        checkApplied("(f 1 3 2)", "(f 1a2)", "a = 3");
        checkApplied("(f b)", "(f a)", "a = b");
        checkApplied("(f(h)b)", "(f(g)b)", "(g) = (h)");
        checkApplied("(f[1]a[2]b)", "(f[1](g)[2]b)", "(g) = a");
        checkApplied("(f[1] a b)", "(f(g[1])b)", "(g) = a");
        checkApplied("(f 0 9)", "(f 0(g))", "(g) = 9");
        checkApplied("(f a z)", "(f a(g))", "(g) = z");
    }

    private static void oneBlankAlone() {
        says("(one alone between two EDITS)");
        checkApplied("(f a a)", "(f(g)(g))", "(g) = a");
        checkApplied("(f 1 1 1)", "(f (g)(g)(g))", "(g) = 1");
        checkApplied("(f a1a)", "(f (g)(h)(g))", "(g) = a", "(h) = 1");
        checkApplied("(f a a)", "(f (g) (g))", "(g) = a");
        Desk d = Desk.with("(f(g)(g))", "(g) = a");
        Desk.due("signs without blanks that are put beside", d.x.edit(OUTSIDE, 0, 2) + d.x.edit(OUTSIDE, 1, 2), 2);
    }

    private static void thenTheSource() {
        says("what comes is the SOURCE then.");
        Desk d = Desk.with("(f[x] a b)", "a = (g 1)");
        d.x.apply(OUTSIDE);
        Desk.due("signs, NODES, COMMENTS, most within", d.x.count(1) + " " + d.x.count(0) + " " + d.x.count(2) + " " + d.x.count(6), "14 4 1 3");
        Desk.due("a new NODE", d.name(1) + d.name(2), "g1");
        Desk.due("the one behind", d.name(3) + d.x.node(3, 4), "b12");
        Desk.due("no EDIT more", d.x.edit(OUTSIDE, -1, 0), 0);
    }

    /** A SOURCE of n signs that ends in (g)) with a letter right ahead of the (g). */
    private static String ofSigns(int n) {
        return "(f[" + many("x", n - 9) + "]a(g))";
    }

    private static void mostSigns() {
        says("It can't be, if that has more than 300 signs");
        Desk.due("signs", ofSigns(300).length(), 300);
        checkApplied(ofSigns(300).replace("g", "h"), ofSigns(300), "(g) = (h)");
        checkCannot(ofSigns(300), "(g) = (hh)");
        checkApplied(ofSigns(299).replace("g", "hh"), ofSigns(299), "(g) = (hh)");
        checkApplied(ofSigns(300).replace("a(g)", "a bb"), ofSigns(300), "(g) = bb");
        checkCannot(ofSigns(300), "(g) = bbb");
        checkApplied(ofSigns(299).replace("a(g)", "a1234"), ofSigns(299), "(g) = 1234");
        checkCannot(ofSigns(299), "(g) = bbbb");
        checkCannot(ofSigns(200), "(f *A) = (f *A" + many(" *A", 18) + ")");
    }

    private static void bounds() {
        says("or is no SOURCE by bounds (60 NODES, 12 PARTS, 15 open).");
        String eleven = "(g" + many(" a", 11) + ")";
        String sixty = "(f" + many(eleven, 4) + "(h" + many(" a", 8) + " b 1))";
        checkApplied(sixty.replace("b", "c"), sixty, "b = c");
        checkCannot(sixty, "b = (c c)");
        String less = sixty.replace(" 1", "");
        checkApplied(less.replace("b", "(c c)"), less, "b = (c c)");
        String twelve = "(f" + many(" a", 11) + " b)";
        checkCannot(twelve, "(f *A) = (f *A c)");
        checkApplied("(f" + many(" a", 12) + ")", "(f" + many(" a", 11) + ")", "(f *A) = (f *A a)");
        String open = many("(f", 16) + " a" + many(")", 16);
        checkCannot(open, "a = (b)");
        checkApplied(open.replace("a", "b"), open, "a = b");
        String lessOpen = many("(f", 15) + " a" + many(")", 15);
        checkApplied(lessOpen.replace("a", "(b)"), lessOpen, "a = (b)");
        checkCannot(lessOpen, "a = (b (c))");
    }

    private static void textIsEmptied() {
        says("IN FULL: source() and rule() empty THE TEXT whatever they answer; with a FAULT all else stays.");
        Desk d = Desk.with("(f a)", "a = 0", "a = 1", "a = 2", "a = 3", "a = 4", "a = 5", "a = 6");
        String before = d.state();
        Desk.due("a FAULT of source()", d.source("(f (g b)"), -1008);
        Desk.due("THE TEXT is empty", d.x.count(4), 0);
        Desk.due("a FAULT of rule()", d.rule("(f *A) = ?A"), -1010);
        Desk.due("THE TEXT is empty", d.x.count(4), 0);
        Desk.due("all else stays", d.state(), before);
        Desk.due("done", d.rule("a = 7"), 7);
        Desk.due("THE TEXT is empty", d.x.count(4), 0);
        Desk.due("there are 8", d.rule("a = 8"), -3);
        Desk.due("THE TEXT is empty", d.x.count(4), 0);
        Desk.due("done", d.source("b"), 1);
        Desk.due("THE TEXT is empty", d.x.count(4), 0);
    }

    private static void boundsOfSourceAlone() {
        says("Bounds of PARTS and of ( within others are the SOURCE's alone;");
        Desk d = new Desk();
        Desk.due("13 PARTS of a PATTERN", d.rule("(f" + many(" a", 13) + ") = b"), 0);
        Desk.due("19 PARTS of a PATTERN", d.rule("(f" + many(" a", 19) + ") = b"), 1);
        Desk.due("19 PARTS of a PUT", d.rule("b = (f" + many(" a", 19) + ")"), 2);
        Desk.due("20 open in a PATTERN", d.rule(many("(f", 20) + many(")", 20) + " = b"), 3);
        Desk.due("20 open in a PUT", d.rule("c = " + many("(f", 20) + many(")", 20)), 4);
        Desk.due("it FITS nothing", d.x.found(3, -1), 0);
        d.source("c");
        Desk.due("signs that come", d.x.edit(OUTSIDE, 0, 2), 79);
        Desk.due("it can't be", d.x.apply(OUTSIDE), -3);
    }

    private static void headsDoNotCount() {
        says("HEADS are none of the 20.");
        Desk d = new Desk();
        Desk.due("20 with 20 HEADS", d.rule("(f" + many(" (g)", 19) + ") = (f" + many(" (g)", 19) + ")"), 0);
        Desk.due("a 21st", d.rule("(f" + many(" (g)", 20) + ") = a"), -1000 - 2 - 19 * 4 - 1);
        Desk.due("a 21st of a PUT", d.rule("a = (f" + many(" (g)", 20) + ")"), -1000 - 6 - 19 * 4 - 1);
    }

    private static void checkFault(boolean ofRule, String text, int at) {
        Desk d = new Desk();
        Desk.due((ofRule ? "rule() of " : "source() of ") + text, ofRule ? d.rule(text) : d.source(text), -1000 - at);
    }

    private static void whatCannotStand() {
        says("What can't stand: a ( without a WORD, a ? or * without an L: at what stands there instead;");
        String[] noWord = {")", "(", "1", "A", "?A", "*A", "_", "^", "="};
        for (String s : noWord) {
            checkFault(false, "(" + s, 1);
            checkFault(false, "(f (  " + s, 6);
            checkFault(true, "(" + s, 1);
            checkFault(true, "a = (  " + s, 7);
        }
        String[] noLetter = {" ", "a", "1", ")", "(", "?", "*", "=", ":n", "@", "[", ""};
        for (String s : noLetter) {
            checkFault(true, "?" + s, 1);
            checkFault(true, "(f *" + s, 4);
            checkFault(true, "?A = ?" + s, 6);
            checkFault(true, "(f *A) = (f *" + s, 13);
        }
        says("a : or ^ in a PUT, a *L not in a ( ), a [ in a RULE: at it; a byte that can't be in a COMMENT: at it.");
        checkFault(true, "?A:n = ?A:n", 9);
        checkFault(true, "?A:n = (f ?A:n)", 12);
        checkFault(true, "a = :", 4);
        checkFault(true, "a = ^ a", 4);
        checkFault(true, "^ a = (f ^ a)", 9);
        checkFault(true, "*A = a", 0);
        checkFault(true, "^ *A = a", 2);
        checkFault(true, "(f ^ *A) = a", 5);
        checkFault(true, "(f *A) = *A", 9);
        checkFault(true, "[x] a = b", 0);
        checkFault(true, "(f [x] a) = b", 3);
        checkFault(true, "a = b [x]", 6);
        checkFault(false, "[abc\u007f] a", 4);
        checkFault(false, "a [\u001f]", 3);
        checkFault(false, "(f [ab\rc] a)", 6);
        checkFault(false, "(f [\u0080", 4);
    }

    private static void toldApart() {
        says("WAYS are told apart by what is chosen, whether or not they HOLD the same.");
        Desk.due("rows of the like", Desk.with("(f a a a)", "(f *A ?B *C) = q").x.ways(0, 0), 3);
        Desk.due("^ of the like", Desk.with("(f a a a)", "^ a = q").x.ways(0, 0), 3);
        Desk.due("^ _", Desk.with("(f a a a)", "^ _ = q").x.ways(0, 0), 4);
        Desk.due("empty rows at two places", Desk.with("(f a)", "(f *A _ *B) = q").x.ways(0, 0), 1);
        Desk.due("one empty, one not", Desk.with("(f a)", "(f *A *B) = q").x.ways(0, 0), 2);
    }

    private static void between() {
        says("A COMMENT between two texts that are HELD is carried.");
        checkComes("(f a[x]b)", "(f ?A ?B) = (g ?A ?B)", "[x] (g a b)");
        checkComes("(f a[x]b)", "(f ?A *B) = (g ?A *B)", "[x] (g a b)");
        checkComes("(f a[x]b)", "(f *A *B) = (g *A *B)", "(g a[x]b)");
        Desk d = Desk.with("(f a[x]b)", "(f *A b *B) = (g *A *B)");
        Desk.due("an empty row holds none", d.comes(OUTSIDE, 0), "[x] (g a)");
        Desk.due("carried", d.x.edit(OUTSIDE, 0, 3), 1);
    }

    private static void innermost() {
        says("A COMMENT stands in that ( ) which is the innermost about it.");
        Desk d = Desk.with("[0](f[1]a[2](g[3](h[4]1[5])[6])[7])[8]");
        int[] want = {-1, 0, 0, 2, 3, 3, 2, 0, -1};
        for (int i = 0; i < 9; i++) {
            Desk.due("comment(" + i + ", 2)", d.x.comment(i, 2), want[i]);
        }
        Desk.due("beside a WORD", Desk.with("[x]a[y]").x.comment(1, 2), -1);
    }

    private static void roundsStop() {
        says("rounds() stops at one that can't be, those ahead of it stay;");
        Desk d = Desk.with("(f a b)", "(f *A) = (f *A *A)");
        Desk.due("rounds", d.x.rounds(OUTSIDE, 6), 2);
        Desk.due("those ahead stay", d.text(), "(f a b a b a b a b)");
        Desk.due("one step", d.x.count(5), 2);
        Desk.due("none more", d.x.rounds(OUTSIDE, 6), 0);
        Desk.due("no step", d.x.count(5), 2);
        Desk.due("undone", d.x.undo(), 1);
        Desk.due("back", d.text(), "(f a b)");
    }

    private static void afterStops() {
        says("after() tells of the SOURCE at which rounds() would stop.");
        Desk d = Desk.with("(f a b)", "(f *A) = (f *A *A)");
        int[] signs = {11, 19, 19, 19, 19, 19};
        for (int n = 1; n <= 6; n++) {
            Desk.due("signs after " + n, d.x.after(OUTSIDE, n, 0), signs[n - 1]);
            Desk.due("EDITS after " + n, d.x.after(OUTSIDE, n, 1), 1);
            Desk.due("the same after " + n, d.x.after(OUTSIDE, n, 2), 0);
        }
        Desk.due("on paper", d.text(), "(f a b)");
    }

    private static void keepLeaves() {
        says("keep() leaves what can be had back.");
        Desk d = Desk.with("b");
        d.source("c");
        d.x.keep(0);
        d.x.keep(1);
        Desk.due("how many", d.x.count(5), 2);
        Desk.due("undo", d.x.undo(), 1);
        Desk.due("text", d.text(), "b");
        Desk.due("undo", d.x.undo(), 0);
        Desk.due("text", d.text(), "a");
    }

    private static void countFromZero() {
        says("THE WORDS of a getter count from 0.");
        Desk d = Desk.with("(f[x]a b)", "?A:w = (g ?A)");
        Desk.due("letter(0)", d.x.letter(0), (int) '(');
        Desk.due("name(0, 0)", d.x.name(0, 0), (int) 'f');
        Desk.due("which PART", d.x.node(1, 2), 0);
        Desk.due("which PART", d.x.node(2, 2), 1);
        Desk.due("comment(0, 0)", d.x.comment(0, 0), 2);
        Desk.due("found(0, 0)", d.x.found(0, 0), 1);
        Desk.due("edit(0, 0, 1)", d.x.edit(OUTSIDE, 0, 1), 1);
        Desk.due("comes(0, 0, 0)", d.x.comes(OUTSIDE, 0, 0), (int) '(');
        Desk.due("comes(0, 1, 3)", d.x.comes(OUTSIDE, 1, 3), (int) 'b');
    }

    private static void nothingIsKept() {
        says("Nothing is kept of a WALK: it is as things are when it is asked.");
        Desk d = Desk.with("(f a b)", "a = 1");
        Desk.due("at first", editsOf(d, OUTSIDE), "1:0");
        d.rule("b = 22");
        Desk.due("a RULE more", editsOf(d, OUTSIDE), "1:0 2:1");
        Desk.due("what comes", d.comes(OUTSIDE, 1), "22");
        d.x.drop(0);
        Desk.due("a RULE less", editsOf(d, OUTSIDE), "2:1");
        d.source("(b (b))");
        Desk.due("another SOURCE", editsOf(d, OUTSIDE), "");
        d.x.undo();
        Desk.due("undone", editsOf(d, INSIDE), "2:1");
        d.x.apply(INSIDE);
        Desk.due("APPLIED", editsOf(d, INSIDE), "");
        Desk.due("no sign of it", d.x.comes(INSIDE, 0, 0), -1);
    }

    private static void latestEight() {
        says("The latest 8 SOURCES ahead of source(), apply(), rounds() that were done can be had back by undo();");
        Desk d = new Desk();
        for (int i = 1; i <= 7; i++) {
            d.source("n" + "abcdefgh".charAt(i));
            Desk.due("after " + i, d.x.count(5), i);
        }
        d.rule("?A:w = (k ?A)");
        d.rule("(k (k ?A)) = ?A");
        Desk.due("apply", d.x.apply(INSIDE), 1);
        Desk.due("8", d.x.count(5), 8);
        Desk.due("rounds", d.x.rounds(INSIDE, 1), 1);
        Desk.due("8 at most", d.x.count(5), 8);
        d.source("(");
        d.rule("(");
        d.x.apply(2);
        d.x.rounds(INSIDE, 7);
        Desk.due("what was not done does not count", d.x.count(5), 8);
        Desk.due("ahead of rounds()", d.x.undo(), 7);
        Desk.due("text", d.text(), "(k nh)");
        Desk.due("ahead of apply()", d.x.undo(), 6);
        for (int i = 7; i >= 2; i--) {
            Desk.due("text", d.text(), "n" + "abcdefgh".charAt(i));
            Desk.due("undo", d.x.undo(), i - 2);
        }
        Desk.due("the oldest of the 8", d.text(), "nb");
        Desk.due("none", d.x.undo(), -3);
        Desk.due("it stays", d.text(), "nb");
    }

    private static void notUndone() {
        says("RULES are not undone; again() forgets them.");
        Desk d = Desk.with("b", "b = c");
        d.x.undo();
        Desk.due("a new RULE stays", d.x.count(3), 1);
        d.source("b");
        d.x.drop(0);
        d.x.undo();
        Desk.due("a dropped one stays away", d.x.count(3), 0);
    }

    private static void forgets() {
        says("again() forgets them.");
        Desk d = Desk.with("b");
        d.x.keep(0);
        d.source("c");
        Desk.due("refused, it forgets nothing", d.x.again(1), false);
        Desk.due("2", d.x.count(5), 2);
        Desk.due("again", d.x.again(0), true);
        Desk.due("0", d.x.count(5), 0);
        Desk.due("undo", d.x.undo(), -3);
        Desk.due("text", d.text(), "b");
    }

    private static void refused() {
        says("REFUSED calls answer as told, and change nothing but THE TEXT: -1 a number that can't be; -2 no such NODE, RULE; -3 it can't be by what stands.");
        Desk d = Desk.with("(f" + many(" a", 12) + ")", "(f *A) = (f *A *A)", "z = y");
        String before = d.state();
        d.type("abc");
        Desk.due("end(4)", d.x.end(4), false);
        Desk.due("drop(2)", d.x.drop(2), -2);
        Desk.due("apply(2)", d.x.apply(2), -1);
        Desk.due("apply(0)", d.x.apply(0), -3);
        Desk.due("apply(1)", d.x.apply(1), -3);
        Desk.due("rounds(0, 0)", d.x.rounds(0, 0), -1);
        Desk.due("rounds(0, 1)", d.x.rounds(0, 1), 0);
        Desk.due("keep(2)", d.x.keep(2), false);
        Desk.due("again(0)", d.x.again(0), false);
        Desk.due("node(13, 0)", d.throwsNoSuchElement(13, 0), true);
        Desk.due("these leave THE TEXT", d.x.count(4), 3);
        Desk.due("source()", d.type("(").x.source(), -1003);
        Desk.due("rule()", d.rule("a ="), -1003);
        Desk.due("nothing changes", d.state(), before);
        Desk e = new Desk();
        Desk.due("undo()", e.x.undo(), -3);
        Desk.due("nothing to be undone", e.text() + e.x.count(5), "a0");
    }

    private static void lastCall() {
        Desk.says("What it is", "An object is used for at most 512 calls after it has been made; what later calls answer is free.");
        SyntaxRules x = new SyntaxRules();
        int calls = 0;
        for (; calls < 256; calls += 2) {
            x.sign('a' << 24 | ' ' << 16 | '=' << 8 | 'b');
            int got = x.rule();
            Desk.due("rule() as call " + (calls + 2), got, calls < 16 ? calls / 2 : -3);
        }
        for (; calls < 510; calls += 2) {
            Desk.due("apply(0) as call " + (calls + 1), x.apply(0), calls == 256 ? 1 : 0);
            Desk.due("letter(0) as call " + (calls + 2), x.letter(0), (int) 'b');
        }
        Desk.due("undo() as call 511", x.undo(), 0);
        Desk.due("rulesOf(0) as call 512", x.rulesOf(0), 255);
    }
}
