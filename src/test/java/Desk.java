/** A SyntaxRules object with texts typed in at one go, and the count of answers that were not as due. */
final class Desk {
    static int wrong;
    static String promise = "";

    final SyntaxRules x = new SyntaxRules();

    /** Types a text, blanks up to a multiple of four cut off again. */
    Desk type(String text) {
        int before = x.count(4);
        for (int i = 0; i < text.length(); i += 4) {
            int v = 0;
            for (int k = i; k < i + 4; k++) {
                v = v << 8 | (k < text.length() ? text.charAt(k) : ' ');
            }
            x.sign(v);
        }
        x.end(before + text.length());
        return this;
    }

    int source(String text) {
        type(text);
        return x.source();
    }

    int rule(String text) {
        type(text);
        return x.rule();
    }

    String text() {
        StringBuilder s = new StringBuilder();
        for (int i = 0; i < x.count(1); i++) {
            s.append((char) x.letter(i));
        }
        return s.toString();
    }

    String comes(int way, int edit) {
        StringBuilder s = new StringBuilder();
        for (int k = 0; x.comes(way, edit, k) != -1; k++) {
            s.append((char) x.comes(way, edit, k));
        }
        return s.toString();
    }

    String name(int node) {
        StringBuilder s = new StringBuilder();
        for (int i = 0; x.name(node, i) != -1; i++) {
            s.append((char) x.name(node, i));
        }
        return s.toString();
    }

    /** A Desk with this SOURCE and these RULES; each must be taken. */
    static Desk with(String source, String... rules) {
        Desk d = new Desk();
        due("source " + source, d.source(source) > 0, true);
        for (String r : rules) {
            due("rule " + r, d.rule(r) >= 0, true);
        }
        return d;
    }

    static void due(String what, Object got, Object want) {
        if (!got.equals(want)) {
            wrong++;
            System.out.println(promise + ": " + what + " answered " + got + ", due is " + want);
        }
    }

    static String many(String part, int n) {
        StringBuilder s = new StringBuilder();
        for (int i = 0; i < n; i++) {
            s.append(part);
        }
        return s.toString();
    }

    static void close(String name) {
        System.out.println(wrong == 0 ? name + ": all answers are as due" : name + ": " + wrong + " answers are not as due");
        if (wrong != 0) {
            System.exit(1);
        }
    }
}
