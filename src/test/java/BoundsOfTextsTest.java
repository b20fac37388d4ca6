/** Terms 1: each sentence that names a bound, or what can't be, of THE TEXT, the SOURCE and RULES. */
public final class BoundsOfTextsTest {
    private static final String TERMS = "Terms 1";

    public static void main(String[] args) {
        theText();
        layout();
        comments();
        wordsAndNumbers();
        rowsTooLong();
        sideBySide();
        layoutOfSource();
        terms();
        nodes();
        parts();
        open();
        kinds();
        places();
        atFirst();
        sides();
        tokens();
        blanksOfRule();
        patterns();
        lettersAndKinds();
        puts();
        itemsOfPattern();
        rowsAndDeeps();
        itemsOfPut();
        rules();
        firstFault();
        endsTooEarly();
        cannotStand();
        faultsOfSourceBounds();
        faultsOfRuleBounds();
        faultsOfLetters();
        Desk.close("BoundsOfTextsTest");
    }

    private static void says(String sentence) {
        Desk.says(TERMS, sentence);
    }

    private static String many(String part, int n) {
        return Desk.many(part, n);
    }

    private static void checkSource(String text, int want) {
        Desk.due("source() of " + text, new Desk().source(text), want);
    }

    private static void checkRule(String text, int want) {
        Desk.due("rule() of " + text, new Desk().rule(text), want);
    }

    private static void checkSourceFault(String text, int at) {
        checkSource(text, -1000 - at);
    }

    private static void checkRuleFault(String text, int at) {
        checkRule(text, -1000 - at);
    }

    private static boolean isLetter(int b) {
        return b >= 97 && b <= 122;
    }

    private static boolean isDigit(int b) {
        return b >= 48 && b <= 57;
    }

    private static void theText() {
        says("THE TEXT (300 signs at most) becomes the SOURCE, or a RULE.");
        Desk d = new Desk();
        Desk.due("a SOURCE of 300 signs", d.source(many(" ", 299) + "a"), 1);
        Desk.due("its signs", d.x.count(1), 300);
        Desk.due("its last sign", d.x.letter(299), (int) 'a');
        checkSource("a" + many("\n", 299), 1);
        checkRule("a" + many(" ", 297) + "=b", 0);
        Desk.due("300 stand", d.type(many("a", 300)).x.count(4), 300);
        Desk.due("no more", d.x.sign(0), -1);
        Desk.due("300 stand yet", d.x.count(4), 300);
    }

    private static void layout() {
        says("LAYOUT: blanks (32), line ends (10), COMMENTS");
        for (int b = 0; b < 256; b++) {
            boolean passes = b == 32 || b == 10 || isLetter(b);
            int fault = b == '(' || b == '[' ? 2 : isDigit(b) ? 1 : 0;
            checkSource((char) b + "a", passes ? 1 : -1000 - fault);
        }
        checkSource("[x]a", 1);
    }

    private static void comments() {
        says("COMMENTS: \"[\", any bytes 32 .. 126 but \"]\", line ends, then \"]\".");
        checkSource("[]a", 1);
        for (int b = 0; b < 256; b++) {
            boolean passes = b == 10 || b >= 32 && b <= 126 && b != ']';
            checkSource("[" + (char) b + "]a", passes ? 1 : b == ']' ? -1002 : -1001);
        }
        Desk d = Desk.with("[ [(f \n ~]a[]");
        Desk.due("how many", d.x.count(2), 2);
        Desk.due("signs of the first", d.x.comment(0, 1), 10);
        Desk.due("signs of an empty one", d.x.comment(1, 1), 2);
    }

    private static void wordsAndNumbers() {
        says("WORD: a longest row of 1 to 8 letters a .. z; NUMBER: one of 1 to 4 digits.");
        for (int b = 0; b < 256; b++) {
            int fault = b == 32 || b == 10 || b == '(' || b == '[' ? 1 : 0;
            Desk d = new Desk();
            Desk.due("source() of byte " + b, d.source("" + (char) b), isLetter(b) || isDigit(b) ? 1 : -1000 - fault);
            Desk.due("KIND of byte " + b, d.x.node(0, 0), isDigit(b) ? 0 : 1);
        }
        for (int n = 1; n <= 8; n++) {
            Desk.due(n + " letters", Desk.with("(" + "abcdefgh".substring(0, n) + ")").name(0), "abcdefgh".substring(0, n));
            Desk.due(n + " letters", Desk.with("zyxwvuts".substring(0, n)).name(0), "zyxwvuts".substring(0, n));
        }
        for (int n = 1; n <= 4; n++) {
            Desk.due(n + " digits", Desk.with("0910".substring(0, n)).name(0), "0910".substring(0, n));
        }
    }

    private static void rowsTooLong() {
        says("(A longer row of letters, of digits is a FAULT at its first one too many;");
        for (int n = 9; n <= 20; n++) {
            String w = many("w", n);
            checkSourceFault(w, 8);
            checkSourceFault("(" + w + ")", 9);
            checkSourceFault("(f " + w + ")", 11);
            checkRuleFault(w + " = a", 8);
            checkRuleFault("(" + w + ") = a", 9);
            checkRuleFault("(f ^" + w + ") = a", 12);
            checkRuleFault("a = " + w, 12);
            checkRuleFault("a = (" + w + ")", 13);
        }
        for (int n = 5; n <= 20; n++) {
            String w = many("7", n);
            checkSourceFault(w, 4);
            checkSourceFault("(f " + w + ")", 7);
            checkRuleFault(w + " = a", 4);
            checkRuleFault("(f " + w + ") = a", 7);
            checkRuleFault("a = " + w, 8);
            checkRuleFault("a = (f " + w + ")", 11);
        }
        checkRule("wwwwwwww = (wwwwwwww 7777)", 0);
        checkRule("(wwwwwwww 7777) = wwwwwwww", 0);
    }

    private static void sideBySide() {
        says("a WORD and a NUMBER may stand side by side.)");
        Desk d = Desk.with("(f1a23bc4)");
        Desk.due("NODES", d.x.count(0), 6);
        Desk.due("names", d.name(0) + " " + d.name(1) + " " + d.name(3) + " " + d.name(4), "f 1 23 bc");
        checkSource("(abcdefgh1234abcdefgh)", 3);
        checkRule("(f1a2?Ab)=(f3c?A4)", 0);
    }

    private static void layoutOfSource() {
        says("SOURCE: a TERM, with LAYOUT ahead, behind and between any two of WORDS, NUMBERS, ( and ).");
        String text = " \n[1](\n[2] f [3]a[4] 12\n\n(g[5])[6] )[7]\n";
        Desk d = Desk.with(text);
        Desk.due("NODES", d.x.count(0), 4);
        Desk.due("COMMENTS", d.x.count(2), 7);
        Desk.due("byte for byte", d.text(), text);
        checkSource("(f(g)a(h)1(i))", 6);
        checkSource("(f a[]b)", 3);
        checkSource("(f 1\n2)", 3);
        checkSource("(f ab)", 2);
    }

    private static void terms() {
        says("TERM: WORD | NUMBER | ( WORD {TERM} ).");
        checkSource("a", 1);
        checkSource("0", 1);
        checkSource("(f)", 1);
        checkSource("(f (f (f)))", 3);
        checkSourceFault("()", 1);
        checkSourceFault("(1)", 1);
        checkSourceFault("((f))", 1);
        checkSourceFault("a b", 2);
        checkSourceFault("a)", 1);
        checkSourceFault("(f))", 3);
        checkSourceFault(")", 0);
    }

    /** A SOURCE of n NODES, 49 to 60, the last ones the PARTS of the last NODE in ( ). */
    private static String ofNodes(int n) {
        String eleven = "(g" + many(" a", 11) + ")";
        return "(f" + many(eleven, 4) + "(h" + many(" a", n - 50) + "))";
    }

    private static void nodes() {
        says("NODES: its TERMS, numbered from 0 on as they begin, 60 at most;");
        Desk d = Desk.with(ofNodes(60));
        Desk.due("60", d.x.count(0), 60);
        Desk.due("the last one is a WORD", d.x.node(59, 0), 1);
        Desk.due("there is no 60", d.throwsNoSuchElement(60, 0), true);
        checkSource(ofNodes(59), 59);
        checkSourceFault(ofNodes(61), ofNodes(61).length() - 3);
        Desk e = Desk.with("(f (g 1) 2)");
        Desk.due("as they begin", e.name(0) + e.name(1) + e.name(2) + e.name(3), "fg12");
    }

    private static void parts() {
        says("a NODE in ( ) has a HEAD (that WORD) and PARTS, 12 at most;");
        Desk.due("none", Desk.with("(f)").x.node(0, 3), 0);
        Desk.due("12", Desk.with("(f" + many(" a", 12) + ")").x.node(0, 3), 12);
        Desk.due("12 in another", Desk.with("(g (f" + many(" a", 12) + "))").x.node(1, 3), 12);
        checkSourceFault("(f" + many(" a", 13) + ")", 2 + 12 * 2 + 1);
        checkSourceFault("(g (f" + many(" a", 13) + "))", 5 + 12 * 2 + 1);
        checkSource("(f" + many("(g a a)", 12) + ")", 37);
    }

    private static void open() {
        says("( is open within 15 others at most.");
        checkSource(many("(f", 16) + many(")", 16), 16);
        checkSource(many("(f", 16) + " a 1" + many(")", 16), 18);
        checkSourceFault(many("(f", 17) + many(")", 17), 32);
        checkSource("(f" + many(many("(f", 15) + many(")", 15), 3) + ")", 46);
        checkSourceFault(many("(f", 16) + "(f" + many(")", 17), 32);
        checkSourceFault(many("(f", 15) + "(f)(f)(f" + "(f", 30 + 3 + 3 + 2);
    }

    private static void kinds() {
        says("KINDS: n a NUMBER, w a WORD, c one in ( ).");
        Desk d = Desk.with("(f 0 a (g) 9999 zzzzzzzz)");
        int[] want = {2, 0, 1, 2, 0, 1};
        for (int n = 0; n < 6; n++) {
            Desk.due("KIND of " + n, d.x.node(n, 0), want[n]);
        }
    }

    private static void places() {
        says("The PLACE of a NODE: from its first sign to its last.");
        Desk d = Desk.with(" [x] (f  abc [y](g[z])  12 ) \n");
        Desk.due("0", d.place(0), "(f  abc [y](g[z])  12 )");
        Desk.due("1", d.place(1), "abc");
        Desk.due("2", d.place(2), "(g[z])");
        Desk.due("3", d.place(3), "12");
    }

    private static void atFirst() {
        says("At first the SOURCE is: a");
        Desk d = new Desk();
        Desk.due("text", d.text(), "a");
        Desk.due("NODES", d.x.count(0), 1);
        Desk.due("KIND", d.x.node(0, 0), 1);
        Desk.due("its name", d.name(0), "a");
    }

    private static void sides() {
        says("RULE: PATTERN = PUT.");
        checkRule("a=b", 0);
        checkRuleFault("a b", 2);
        checkRuleFault("= b", 0);
        checkRuleFault("a =", 3);
        checkRuleFault("a == b", 3);
        checkRuleFault("a = b = c", 6);
        checkRuleFault("a = b c", 6);
        checkRuleFault("(f) (g) = c", 4);
        checkRuleFault("(f = c", 3);
    }

    private static void tokens() {
        says("TOKENS of it: WORD, NUMBER, ( ) _ ^ =, ?L, ?L:K, *L (nothing stands within one)");
        checkRuleFault("? A = b", 1);
        checkRuleFault("?A :n = b", 3);
        checkRuleFault("?A: n = b", 3);
        checkRuleFault("(f * A) = b", 4);
        checkRuleFault("?A = ? A", 6);
        checkRuleFault("(f *A) = (f * A)", 13);
        checkRule("(f ?A:n *B) = (f ?A *B)", 0);
        checkRule("(f?A:n*B)=(f?A*B)", 0);
        Desk.due("?A:nn is ?A:n and n", Desk.with("(f 1 n)", "(f ?A:nn) = b").x.rulesOf(0), 1);
    }

    private static void blanksOfRule() {
        says("blanks (32) ahead, behind and between any two.");
        checkRule("  (  f  ?A:n  *B  ^  _  1  )  =  (  g  ?A  *B  1  )  ", 0);
        checkRule("(f?A:n*B^_1)=(g?A*B 1)", 0);
        for (int b = 0; b < 256; b++) {
            boolean passes = b == 32 || isLetter(b);
            checkRule("a" + (char) b + "=b", passes ? 0 : b == '=' ? -1002 : -1001);
        }
        checkRuleFault("\na = b", 0);
        checkRuleFault("a = b\n", 5);
        checkRuleFault("(f\n) = b", 2);
        checkRuleFault("a =[x] b", 3);
    }

    private static void patterns() {
        says("PATTERN: _ | ?L [:K] | ^ PATTERN | WORD | NUMBER | ( WORD {PATTERN | *L} ).");
        String[] patterns = {"_", "?A", "?A:w", "^ _", "^ ?A:c", "^ (f *A)", "a", "0", "(f)", "(f _ ?A ^ (g *B *C) b 1 (h))"};
        for (String p : patterns) {
            checkRule(p + " = b", 0);
            checkRule("(f " + p + ") = b", 0);
            checkRuleFault(p + " " + p + " = b", p.length() + 1);
        }
        checkRuleFault("*A = b", 0);
        checkRuleFault("^ = b", 2);
        checkRuleFault("(f ^) = b", 4);
        checkRuleFault("(f ^ *A) = b", 5);
        checkRuleFault("_:n = b", 1);
        checkRuleFault("(f *A:n) = b", 5);
        checkRuleFault("(_) = b", 1);
    }

    private static void lettersAndKinds() {
        says("L: A .. Z, K: n, w, c.");
        for (int b = 0; b < 256; b++) {
            boolean isL = b >= 65 && b <= 90;
            boolean isK = b == 'n' || b == 'w' || b == 'c';
            checkRule("?" + (char) b + " = a", isL ? 0 : -1001);
            checkRule("(f *" + (char) b + ") = a", isL ? 0 : -1004);
            checkRule("?A:" + (char) b + " = a", isK ? 0 : -1003);
            Desk d = Desk.with("(f b)", "(f ?" + (isL ? (char) b : 'A') + ") = b");
            Desk.due("HELD by " + (char) b, d.x.held(0, 0, isL ? b - 65 : 0, 0), 1);
        }
    }

    private static void puts() {
        says("PUT: ?L | WORD | NUMBER | ( WORD {PUT | *L} ).");
        checkRule("?A = ?A", 0);
        checkRule("a = b", 0);
        checkRule("a = 0", 0);
        checkRule("a = (f)", 0);
        checkRule("(f ?A *B) = (f (g *B ?A) *B 1)", 0);
        checkRuleFault("a = _", 4);
        checkRuleFault("a = (f _)", 7);
        checkRuleFault("a = (f ^ a)", 7);
        checkRuleFault("a = (1)", 5);
        checkRuleFault("a = b c", 6);
    }

    private static void itemsOfPattern() {
        says("A PATTERN has 20 of these (those in it, *L, too) at most");
        String[] kinds = {"b", "12", "_", "?A", "?A:n", "(b)", "*A"};
        for (String k : kinds) {
            checkRule("(f" + many(" a", 18) + " " + k + ") = b", 0);
            checkRuleFault("(f" + many(" a", 19) + " " + k + ") = b", 2 + 19 * 2 + 1);
        }
        checkRuleFault("(f" + many(" a", 19) + " ^ a) = b", 2 + 19 * 2 + 1);
        checkRuleFault("(f" + many(" a", 18) + " ^ a) = b", 2 + 18 * 2 + 3);
        checkRule("(f" + many(" a", 17) + " ^ a) = b", 0);
        checkRule(many("(f", 20) + many(")", 20) + " = b", 0);
        checkRuleFault(many("(f", 21) + many(")", 21) + " = b", 40);
        checkRule("(f *A *B" + many(" a", 17) + ") = b", 0);
        checkRuleFault("(f *A *B" + many(" a", 18) + ") = b", 8 + 17 * 2 + 1);
    }

    private static void rowsAndDeeps() {
        says("two *L and one ^ at most; a PUT 20.");
        checkRule("(f *A *B) = a", 0);
        checkRule("(f *A (g *A)) = a", 0);
        checkRule("(f ^ a *A *B) = a", 0);
        checkRuleFault("(f *A *B *C) = a", 9);
        checkRuleFault("(f *A (g *B) *A) = a", 13);
        checkRuleFault("(f *A *A (g *A)) = a", 12);
        checkRuleFault("(f ^ a ^ b) = a", 7);
        checkRuleFault("^ ^ a = b", 2);
        checkRuleFault("^ (f ^ a) = b", 5);
        checkRule("(f *A) = (f *A *A *A *A *A)", 0);
    }

    private static void itemsOfPut() {
        says("a PUT 20.");
        String[] kinds = {"b", "12", "?A", "(b)", "*B"};
        String left = "(f ?A *B) = ";
        for (String k : kinds) {
            checkRule(left + "(f" + many(" a", 18) + " " + k + ")", 0);
            checkRuleFault(left + "(f" + many(" a", 19) + " " + k + ")", 12 + 2 + 19 * 2 + 1);
        }
        checkRule("a = " + many("(f", 20) + many(")", 20), 0);
        checkRuleFault("a = " + many("(f", 21) + many(")", 21), 4 + 40);
        checkRule("(f" + many(" a", 19) + ") = (f" + many(" a", 19) + ")", 0);
    }

    private static void rules() {
        says("RULES: 8 at most, numbered from 0 on (one that goes leaves its number; a new one has the least free).");
        Desk d = new Desk();
        for (int i = 0; i < 8; i++) {
            Desk.due("RULE " + i, d.rule("a = " + i), i);
        }
        Desk.due("a ninth", d.rule("a = 8"), -3);
        Desk.due("8 stand", d.x.count(3), 8);
        d.x.drop(6);
        d.x.drop(2);
        Desk.due("the others have their numbers", d.x.rulesOf(0), 255 - 64 - 4);
        Desk.due("the least free", d.rule("b = 1"), 2);
        Desk.due("the next", d.rule("b = 1"), 6);
        Desk.due("full again", d.rule("b = 1"), -3);
        Desk.due("the others stay", d.x.rulesOf(0), 255 - 64 - 4);
    }

    private static void firstFault() {
        says("FAULTS, the first sign from the left that makes one");
        checkSourceFault("(f A B", 3);
        checkSourceFault("(f abcdefghi 12345", 11);
        checkSourceFault("(f 12345 abcdefghi", 7);
        checkSourceFault("a [x] ] [", 6);
        checkSourceFault("a[\u0001\u0002", 2);
        checkSourceFault("(f" + many(" a", 12) + " abcdefghi)", 27);
        checkRuleFault("(f ?a *b) = c", 4);
        checkRuleFault("(f *A *B *A ^a ^b) = ?C", 9);
        checkRuleFault("(f ^a ^b *A *B *A) = ?C", 6);
        checkRuleFault("a = (f ?C", 8);
        checkRuleFault("(f" + many(" a", 19) + " abcdefghi) = b", 41);
        checkRuleFault("(f" + many(" a", 19) + " ?a) = b", 41);
        checkRuleFault("(f *A ?A ?A", 7);
    }

    private static void endsTooEarly() {
        says("the length if it ends too early");
        String[] sources = {"", " ", "\n\n", "[x] ", "(", "( [x]", "(f", "(f ", "(f a", "(f 1", "(f (g)", "(f (g", "[", "[x\n", "a[", "a [x",
            "(f[", "(f a[x"};
        for (String s : sources) {
            checkSourceFault(s, s.length());
        }
        String rule = " (f ?A:n *B ^ _ 1 (g)) = (g ?A *B 1 (h))";
        for (int n = 0; n < rule.length(); n++) {
            checkRuleFault(rule.substring(0, n), n);
        }
        checkRule(rule, 0);
        checkRuleFault("^", 1);
        checkRuleFault("a =", 3);
        checkRuleFault("?A = ?", 6);
        checkSourceFault(many("(f", 16) + many(" ", 268), 300);
        checkSourceFault("a[" + many("x", 298), 300);
        checkRuleFault("a" + many(" ", 299), 300);
    }

    private static void cannotStand() {
        says("a sign that can't stand there;");
        String[] none = {"?", "*", "_", "^", "=", ":", "]", "A", "Z", "`", "{", "@", "/", ")", "\t", "\r", "\u0000", "\u007f", "\u00e9"};
        for (String s : none) {
            checkSourceFault(s + "a", 0);
            checkSourceFault("a " + s, 2);
            checkSourceFault("(" + s + "f)", 1);
            if (!s.equals(")")) {
                checkSourceFault("(f a" + s + ")", 4);
            }
        }
        String[] noneOfRule = {"=", ":", "[", "]", "A", "`", "{", "@", "/", ")", "\n", "\t", "\u0000", "\u007f", "\u00e9"};
        for (String s : noneOfRule) {
            checkRuleFault(s + "a = b", 0);
            checkRuleFault("(" + s + "f) = b", 1);
            checkRuleFault("a = " + s + "b", 4);
            checkRuleFault("a = b " + s, 6);
            if (!s.equals(")")) {
                checkRuleFault("(f " + s + ") = b", 3);
                checkRuleFault("a = (f " + s + ")", 7);
            }
        }
    }

    private static void faultsOfSourceBounds() {
        says("the first sign of a 61st NODE, a 13th PART, a ( within 16 others;");
        String[] kinds = {"bbb", "123", "(b c)"};
        String sixty = ofNodes(60).substring(0, ofNodes(60).length() - 2);
        for (String k : kinds) {
            checkSourceFault(sixty + " [x] " + k + "))", sixty.length() + 5);
            checkSourceFault(sixty + ") " + k + ")", sixty.length() + 2);
            checkSourceFault("(f" + many(" a", 12) + "\n[x]" + k + ")", 26 + 4);
            checkSourceFault("(f" + many("(g)", 12) + k + ")", 2 + 36);
        }
        checkSourceFault(many("(f", 16) + " [x] (f" + many(")", 17), 32 + 5);
        checkSourceFault(many("(f", 15) + "(g)(g a)(g (", 30 + 3 + 5 + 3);
        checkSource(many("(f", 15) + "(g)(g a)(g 1" + many(")", 16), 20);
    }

    private static void faultsOfRuleBounds() {
        says("of a 21st of a PATTERN or PUT; the * of a third *L, a second ^ of a PATTERN;");
        checkRuleFault("(f" + many(" a", 19) + "   (b)) = b", 2 + 38 + 3);
        checkRuleFault("(f" + many(" a", 10) + "(g" + many(" a", 9) + ") = b", 2 + 20 + 2 + 16 + 1);
        checkRuleFault("a = (f" + many(" a", 10) + "(g" + many(" a", 9) + ")", 6 + 20 + 2 + 16 + 1);
        checkRuleFault("a = (f" + many(" a", 19) + "   ?A)", 6 + 38 + 3);
        checkRuleFault("(f *A *B   *C) = b", 11);
        checkRuleFault("(f *A *B (g (h *A))) = b", 15);
        checkRuleFault("(f ^a   ^b) = b", 8);
        checkRuleFault("(f (g ^a) (h (i ^b))) = b", 16);
    }

    private static void faultsOfLetters() {
        says("an L (at it) that stood with ? and stands with * or the other way round; in a PUT an L (at it) that is not in the PATTERN.");
        checkRuleFault("(f ?A *A) = b", 7);
        checkRuleFault("(f *A ?A) = b", 7);
        checkRuleFault("(f *A ?A:n) = b", 7);
        checkRuleFault("(f (g ?Z) *Z) = b", 11);
        checkRuleFault("?A = (f *A)", 9);
        checkRuleFault("(f *A) = ?A", 10);
        checkRuleFault("(f *A) = (f ?A)", 13);
        checkRuleFault("a = ?A", 5);
        checkRuleFault("?A = ?B", 6);
        checkRuleFault("?Y = ?Z", 6);
        checkRuleFault("?A = (f ?A ?B)", 12);
        checkRuleFault("(f *A) = (f *A *B)", 16);
        checkRuleFault("a = (f *A)", 8);
        checkRule("(f ?A ?A *B *B) = (f *B ?A *B ?A)", 0);
        Desk d = new Desk();
        Desk.due("an L of another RULE", d.rule("(f ?A *B) = ?A"), 0);
        Desk.due("does not count", d.rule("(f ?B *A) = (g ?B *A)"), 1);
        Desk.due("nor in a PUT", d.rule("c = ?A"), -1005);
    }
}
