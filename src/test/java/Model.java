import java.util.ArrayList;
import java.util.Arrays;
import java.util.Collections;
import java.util.Comparator;
import java.util.HashMap;
import java.util.HashSet;
import java.util.LinkedHashMap;
import java.util.List;
import java.util.Map;
import java.util.NoSuchElementException;
import java.util.Set;

/**
 * The document once more, in the most naive way: texts as Strings, trees of objects, all WAYS listed
 * before any is looked at. It shares nothing with the program, so that a slip in one of them shows.
 */
final class Model {
    static final class Fault extends RuntimeException {
        private static final long serialVersionUID = 1L;
        final int place;

        Fault(int place) {
            this.place = place;
        }
    }

    static final class Term {
        char kind;
        String name;
        int begin;
        int end;
        int number;
        Term parent;
        final List<Term> parts = new ArrayList<>();
        final List<Term> all = new ArrayList<>();

        int depth() {
            return parent == null ? 0 : parent.depth() + 1;
        }

        boolean alike(Term other) {
            if (kind != other.kind || !name.equals(other.name)) {
                return false;
            }
            return alikeRows(parts, other.parts);
        }

        static boolean alikeRows(List<Term> a, List<Term> b) {
            if (a.size() != b.size()) {
                return false;
            }
            for (int i = 0; i < a.size(); i++) {
                if (!a.get(i).alike(b.get(i))) {
                    return false;
                }
            }
            return true;
        }
    }

    /** A SOURCE: its text, its NODES by numbers, its COMMENTS as {begin, behind, NODE}. */
    static final class Src {
        String text;
        int at;
        final List<Term> nodes = new ArrayList<>();
        final List<int[]> comments = new ArrayList<>();

        Src(String text) {
            this.text = text;
            term(null, 0);
            layout(null);
            if (at < text.length()) {
                throw new Fault(at);
            }
        }

        char peek() {
            if (at >= text.length()) {
                throw new Fault(text.length());
            }
            return text.charAt(at);
        }

        void layout(Term in) {
            while (at < text.length()) {
                char c = text.charAt(at);
                if (c == ' ' || c == '\n') {
                    at++;
                } else if (c == '[') {
                    int begin = at++;
                    while (peek() != ']') {
                        char d = peek();
                        if (d != '\n' && (d < 32 || d > 126)) {
                            throw new Fault(at);
                        }
                        at++;
                    }
                    at++;
                    comments.add(new int[] {begin, at, in == null ? -1 : in.number});
                } else {
                    return;
                }
            }
        }

        Term term(Term parent, int open) {
            layout(parent);
            char c = peek();
            boolean ok = c == '(' || Character.isLowerCase(c) && c <= 'z' || c >= '0' && c <= '9';
            if (!ok || nodes.size() == 60 || parent != null && parent.parts.size() == 12 || c == '(' && open > 15) {
                throw new Fault(at);
            }
            Term t = new Term();
            t.begin = at;
            t.number = nodes.size();
            t.parent = parent;
            nodes.add(t);
            if (parent != null) {
                parent.parts.add(t);
            }
            if (c == '(') {
                t.kind = 'c';
                at++;
                layout(t);
                char h = peek();
                if (h < 'a' || h > 'z') {
                    throw new Fault(at);
                }
                t.name = word();
                while (true) {
                    layout(t);
                    if (peek() == ')') {
                        at++;
                        break;
                    }
                    term(t, open + 1);
                }
            } else {
                t.kind = c <= '9' ? 'n' : 'w';
                t.name = c <= '9' ? number() : word();
            }
            t.end = at;
            for (int i = t.number; i < nodes.size(); i++) {
                t.all.add(nodes.get(i));
            }
            return t;
        }

        String word() {
            String w = rowAt(text, at, 'a', 'z', 8);
            at += w.length();
            return w;
        }

        String number() {
            String w = rowAt(text, at, '0', '9', 4);
            at += w.length();
            return w;
        }
    }

    static String rowAt(String text, int at, char lo, char hi, int most) {
        int end = at;
        while (end < text.length() && text.charAt(end) >= lo && text.charAt(end) <= hi) {
            if (end - at == most) {
                throw new Fault(end);
            }
            end++;
        }
        return text.substring(at, end);
    }

    /** One of a PATTERN or PUT: op is one of _ ? * ^ a (WORD, NUMBER) and (. */
    static final class Pat {
        char op;
        String word = "";
        char letter;
        char kind;
        final List<Pat> parts = new ArrayList<>();

        boolean hasRow() {
            return parts.stream().anyMatch(p -> p.op == '*');
        }

        /** The TOKENS, a blank between any two. */
        String tokens() {
            StringBuilder s = new StringBuilder();
            switch (op) {
                case '_': return "_";
                case '?': return "?" + letter + (kind == 0 ? "" : ":" + kind);
                case '*': return "*" + letter;
                case '^': return "^ " + parts.get(0).tokens();
                case 'a': return word;
                default:
                    s.append("( ").append(word);
                    for (Pat p : parts) {
                        s.append(' ').append(p.tokens());
                    }
                    return s.append(" )").toString();
            }
        }

        void listInto(List<Pat> list) {
            list.add(this);
            for (Pat p : parts) {
                p.listInto(list);
            }
        }

        List<Pat> list() {
            List<Pat> list = new ArrayList<>();
            listInto(list);
            return list;
        }
    }

    static final class Rul {
        String text;
        int at;
        int many;
        int rows;
        int deeps;
        boolean put;
        final Map<Character, Character> forms = new HashMap<>();
        Pat pattern;
        Pat place;

        Rul(String text) {
            this.text = text;
            pattern = pat(false);
            blanks();
            if (peek() != '=') {
                throw new Fault(at);
            }
            at++;
            put = true;
            many = 0;
            place = pat(false);
            blanks();
            if (at < text.length()) {
                throw new Fault(at);
            }
        }

        char peek() {
            if (at >= text.length()) {
                throw new Fault(text.length());
            }
            return text.charAt(at);
        }

        void blanks() {
            while (at < text.length() && text.charAt(at) == ' ') {
                at++;
            }
        }

        Pat pat(boolean within) {
            blanks();
            char c = peek();
            Pat p = new Pat();
            boolean letter = c >= 'a' && c <= 'z';
            boolean digit = c >= '0' && c <= '9';
            if (!letter && !digit && "_?^(*".indexOf(c) < 0) {
                throw new Fault(at);
            }
            if (put && (c == '_' || c == '^') || c == '*' && !within) {
                throw new Fault(at);
            }
            many++;
            if (many > 20) {
                throw new Fault(at);
            }
            if (c == '^' && ++deeps > 1 || c == '*' && !put && ++rows > 2) {
                throw new Fault(at);
            }
            if (letter || digit) {
                p.op = 'a';
                p.word = letter ? rowAt(text, at, 'a', 'z', 8) : rowAt(text, at, '0', '9', 4);
                at += p.word.length();
                return p;
            }
            p.op = c;
            at++;
            if (c == '?' || c == '*') {
                hole(p, c);
            } else if (c == '^') {
                p.parts.add(pat(false));
            } else if (c == '(') {
                blanks();
                char h = peek();
                if (h < 'a' || h > 'z') {
                    throw new Fault(at);
                }
                p.word = rowAt(text, at, 'a', 'z', 8);
                at += p.word.length();
                blanks();
                while (peek() != ')') {
                    p.parts.add(pat(true));
                    blanks();
                }
                at++;
            }
            return p;
        }

        void hole(Pat p, char c) {
            char l = peek();
            if (l < 'A' || l > 'Z') {
                throw new Fault(at);
            }
            Character form = forms.get(l);
            if (form == null && put || form != null && form != c) {
                throw new Fault(at);
            }
            forms.put(l, c);
            p.letter = l;
            at++;
            if (!put && c == '?' && at < text.length() && text.charAt(at) == ':') {
                at++;
                char k = peek();
                if ("nwc".indexOf(k) < 0) {
                    throw new Fault(at);
                }
                p.kind = k;
                at++;
            }
        }
    }

    /** What each L of a PATTERN holds, one entry a standing, in the order of the PATTERN. */
    static final class Way {
        final List<Character> letters = new ArrayList<>();
        final List<List<Term>> helds = new ArrayList<>();

        static Way of(char letter, List<Term> held) {
            Way w = new Way();
            w.letters.add(letter);
            w.helds.add(held);
            return w;
        }

        Way and(Way other) {
            Way w = new Way();
            w.letters.addAll(letters);
            w.helds.addAll(helds);
            w.letters.addAll(other.letters);
            w.helds.addAll(other.helds);
            return w;
        }

        boolean agrees() {
            for (int i = 0; i < letters.size(); i++) {
                if (!Term.alikeRows(held(letters.get(i)), helds.get(i))) {
                    return false;
                }
            }
            return true;
        }

        List<Term> held(char letter) {
            int i = letters.indexOf(letter);
            return i < 0 ? null : helds.get(i);
        }
    }

    static List<Way> waysOf(Pat p, Term t) {
        List<Way> list = new ArrayList<>();
        for (Way w : rawWays(p, t)) {
            if (w.agrees()) {
                list.add(w);
            }
        }
        return list;
    }

    static List<Way> rawWays(Pat p, Term t) {
        switch (p.op) {
            case '_':
                return List.of(new Way());
            case '?':
                return p.kind == 0 || p.kind == t.kind ? List.of(Way.of(p.letter, List.of(t))) : List.of();
            case '^': {
                List<Way> list = new ArrayList<>();
                for (Term in : t.all) {
                    list.addAll(rawWays(p.parts.get(0), in));
                }
                return list;
            }
            case 'a':
                return t.kind != 'c' && t.name.equals(p.word) ? List.of(new Way()) : List.of();
            default:
                return t.kind == 'c' && t.name.equals(p.word) ? rawRows(p.parts, t.parts) : List.of();
        }
    }

    static List<Way> rawRows(List<Pat> pats, List<Term> terms) {
        if (pats.isEmpty()) {
            return terms.isEmpty() ? List.of(new Way()) : List.of();
        }
        Pat first = pats.get(0);
        List<Pat> restPats = pats.subList(1, pats.size());
        List<Way> list = new ArrayList<>();
        if (first.op == '*') {
            for (int n = 0; n <= terms.size(); n++) {
                Way w = Way.of(first.letter, terms.subList(0, n));
                for (Way r : rawRows(restPats, terms.subList(n, terms.size()))) {
                    list.add(w.and(r));
                }
            }
        } else if (!terms.isEmpty()) {
            List<Way> heads = rawWays(first, terms.get(0));
            if (!heads.isEmpty()) {
                List<Way> rests = rawRows(restPats, terms.subList(1, terms.size()));
                for (Way w : heads) {
                    for (Way r : rests) {
                        list.add(w.and(r));
                    }
                }
            }
        }
        return list;
    }

    /** A TEST: what it asks, as a text that is the same for TESTS that are alike, and how to ask it. */
    static final class Test {
        final String key;
        final Pat pat;
        final List<Integer> path;
        final List<Integer> other;

        Test(String what, Pat pat, List<Integer> path, List<Integer> other) {
            this.key = what + " at " + path;
            this.pat = pat;
            this.path = path;
            this.other = other;
        }

        static Term follow(List<Integer> path, Term t) {
            Term at = t;
            for (int i : path) {
                at = at.parts.get(i);
            }
            return at;
        }

        boolean isSo(Term node) {
            Term t = follow(path, node);
            switch (key.charAt(0)) {
                case 'j': return t.kind != 'c' && t.name.equals(pat.word);
                case 'h': return t.kind == 'c' && t.name.equals(pat.word);
                case 'p': return t.parts.size() == pat.parts.size();
                case 'k': return t.kind == pat.kind;
                case 'a': return t.alike(follow(other, node));
                default: return !waysOf(pat, t).isEmpty();
            }
        }
    }

    static List<Test> testsOf(Pat p) {
        List<Test> list = new ArrayList<>();
        testsInto(p, List.of(), new HashMap<>(), list);
        return list;
    }

    static void testsInto(Pat p, List<Integer> path, Map<Character, List<Integer>> stood, List<Test> list) {
        if (p.op == 'a') {
            list.add(new Test("just " + p.word, p, path, null));
        } else if (p.op == '?') {
            if (p.kind != 0) {
                list.add(new Test("kind " + p.kind, p, path, null));
            }
            if (stood.containsKey(p.letter)) {
                list.add(new Test("alike with " + stood.get(p.letter), p, path, stood.get(p.letter)));
            } else {
                stood.put(p.letter, path);
            }
        } else if (p.op == '^' || p.hasRow()) {
            list.add(new Test("fits " + p.tokens(), p, path, null));
        } else if (p.op == '(') {
            list.add(new Test("head " + p.word, p, path, null));
            list.add(new Test("parts " + p.parts.size(), p, path, null));
            for (int i = 0; i < p.parts.size(); i++) {
                List<Integer> below = new ArrayList<>(path);
                below.add(i);
                testsInto(p.parts.get(i), below, stood, list);
            }
        }
    }

    static final class Tree {
        Test test;
        final Map<String, Tree> below = new LinkedHashMap<>();

        int size() {
            int n = 0;
            for (Tree t : below.values()) {
                n += 1 + t.size();
            }
            return n;
        }

        int asked(Term node) {
            int n = 0;
            for (Tree t : below.values()) {
                n += 1;
                if (t.test.isSo(node)) {
                    n += t.asked(node);
                }
            }
            return n;
        }
    }

    static final class Edit {
        Term node;
        int rule;
        String comes;
        int carried;
    }

    String typed = "";
    Src src = new Src("a");
    Rul[] rules = new Rul[8];
    List<String> past = new ArrayList<>();
    String[] keptText = new String[2];
    Rul[][] keptRules = new Rul[2][];

    boolean isNode(int n) {
        return n >= 0 && n < src.nodes.size();
    }

    boolean isRule(int r) {
        return r >= 0 && r < 8 && rules[r] != null;
    }

    boolean isWay(int w) {
        return w == 0 || w == 1;
    }

    int sign(int v) {
        if (typed.length() > 296) {
            return -1;
        }
        typed += "" + (char) (v >>> 24) + (char) (v >> 16 & 255) + (char) (v >> 8 & 255) + (char) (v & 255);
        return typed.length();
    }

    boolean end(int n) {
        if (n < 0 || n > typed.length()) {
            return false;
        }
        typed = typed.substring(0, n);
        return true;
    }

    void remember(String text) {
        past.add(text);
        if (past.size() > 8) {
            past.remove(0);
        }
    }

    int source() {
        String text = typed;
        typed = "";
        try {
            Src read = new Src(text);
            remember(src.text);
            src = read;
            return src.nodes.size();
        } catch (Fault f) {
            return -1000 - f.place;
        }
    }

    int rule() {
        String text = typed;
        typed = "";
        try {
            Rul read = new Rul(text);
            int free = Arrays.asList(rules).indexOf(null);
            if (free < 0) {
                return -3;
            }
            rules[free] = read;
            return free;
        } catch (Fault f) {
            return -1000 - f.place;
        }
    }

    int ruleCount() {
        int n = 0;
        for (Rul r : rules) {
            n += r == null ? 0 : 1;
        }
        return n;
    }

    int drop(int rule) {
        if (!isRule(rule)) {
            return -2;
        }
        rules[rule] = null;
        return ruleCount();
    }

    int node(int node, int what) {
        if (!isNode(node)) {
            throw new NoSuchElementException();
        }
        Term t = src.nodes.get(node);
        switch (what) {
            case 0: return "nwc".indexOf(t.kind);
            case 1: return t.parent == null ? -1 : t.parent.number;
            case 2: return t.parent == null ? -1 : t.parent.parts.indexOf(t);
            case 3: return t.parts.size();
            case 4: return t.begin;
            case 5: return t.end - t.begin;
            case 6: return t.all.size();
            case 7: return t.depth();
            default: return -1;
        }
    }

    int name(int node, int i) {
        if (!isNode(node) || i < 0 || i >= src.nodes.get(node).name.length()) {
            return -1;
        }
        return src.nodes.get(node).name.charAt(i);
    }

    int comment(int i, int what) {
        if (i == -1) {
            return what == 0 ? src.comments.size() : -1;
        }
        if (i < 0 || i >= src.comments.size() || what < 0 || what > 2) {
            return -1;
        }
        int[] c = src.comments.get(i);
        return what == 0 ? c[0] : what == 1 ? c[1] - c[0] : c[2];
    }

    int letter(int i) {
        return i < 0 || i >= src.text.length() ? -1 : src.text.charAt(i);
    }

    int alike(int a, int b) {
        return !isNode(a) || !isNode(b) ? -1 : src.nodes.get(a).alike(src.nodes.get(b)) ? 1 : 0;
    }

    int twins(int node, int what) {
        if (!isNode(node) || what < 0 || what > 1) {
            return -1;
        }
        List<Integer> list = new ArrayList<>();
        for (Term t : src.nodes) {
            if (t.alike(src.nodes.get(node))) {
                list.add(t.number);
            }
        }
        return what == 0 ? list.size() : list.get(0);
    }

    int told(int rule, int what) {
        if (!isRule(rule)) {
            return -1;
        }
        List<Pat> pats = rules[rule].pattern.list();
        switch (what) {
            case 0: return testsOf(rules[rule].pattern).size();
            case 1: return (int) pats.stream().filter(p -> p.op == '*').count();
            case 2: return (int) pats.stream().filter(p -> p.op == '^').count();
            case 3: return (int) pats.stream().filter(p -> p.letter != 0).map(p -> p.letter).distinct().count();
            case 4: return (int) rules[rule].place.list().stream().filter(p -> p.op == '(').count();
            default: return -1;
        }
    }

    int ways(int rule, int node) {
        if (!isRule(rule) || !isNode(node)) {
            return -1;
        }
        return Math.min(500, waysOf(rules[rule].pattern, src.nodes.get(node)).size());
    }

    int held(int rule, int node, int letter, int what) {
        if (!isRule(rule) || !isNode(node) || letter < 0 || letter > 25 || what < 0 || what > 1) {
            return -1;
        }
        List<Way> ways = waysOf(rules[rule].pattern, src.nodes.get(node));
        List<Term> held = ways.isEmpty() ? null : ways.get(0).held((char) ('A' + letter));
        if (held == null) {
            return -1;
        }
        return what == 1 ? held.size() : held.isEmpty() ? -1 : held.get(0).number;
    }

    boolean fits(Rul r, Term t) {
        return r != null && !waysOf(r.pattern, t).isEmpty();
    }

    int found(int rule, int i) {
        if (!isRule(rule)) {
            return -1;
        }
        List<Integer> list = new ArrayList<>();
        for (Term t : src.nodes) {
            if (fits(rules[rule], t)) {
                list.add(t.number);
            }
        }
        return i == -1 ? list.size() : i < 0 || i >= list.size() ? -1 : list.get(i);
    }

    int bits(Term t) {
        int bits = 0;
        for (int r = 0; r < 8; r++) {
            bits |= fits(rules[r], t) ? 1 << r : 0;
        }
        return bits;
    }

    int rulesOf(int node) {
        return isNode(node) ? bits(src.nodes.get(node)) : -1;
    }

    Tree tree() {
        Tree top = new Tree();
        for (Rul r : rules) {
            Tree at = top;
            for (Test t : r == null ? List.<Test>of() : testsOf(r.pattern)) {
                Tree next = at.below.get(t.key);
                if (next == null) {
                    next = new Tree();
                    next.test = t;
                    at.below.put(t.key, next);
                }
                at = next;
            }
        }
        return top;
    }

    int tests(int what) {
        if (what == 1) {
            return tree().size();
        }
        int sum = 0;
        for (Rul r : rules) {
            sum += r == null ? 0 : testsOf(r.pattern).size();
        }
        return what == 0 ? sum : -1;
    }

    int asked(int node) {
        return isNode(node) ? tree().asked(src.nodes.get(node)) : -1;
    }

    List<Edit> walk(Src s, int way) {
        List<Term> order = new ArrayList<>(s.nodes);
        if (way == 1) {
            order.sort(Comparator.comparingInt(t -> t.end));
        }
        List<Edit> edits = new ArrayList<>();
        for (Term t : order) {
            boolean free = true;
            for (Edit e : edits) {
                free &= way == 0 ? !e.node.all.contains(t) : !t.all.contains(e.node);
            }
            int b = free ? bits(t) : 0;
            if (b != 0) {
                Edit e = new Edit();
                e.node = t;
                e.rule = Integer.numberOfTrailingZeros(b);
                write(s, e);
                edits.add(e);
            }
        }
        edits.sort(Comparator.comparingInt(e -> e.node.begin));
        return edits;
    }

    void write(Src s, Edit e) {
        Way way = waysOf(rules[e.rule].pattern, e.node).get(0);
        Pat place = rules[e.rule].place;
        Set<Integer> within = new HashSet<>();
        for (Pat p : place.list()) {
            List<Term> held = p.letter == 0 ? List.of() : way.held(p.letter);
            if (!held.isEmpty()) {
                for (int i = held.get(0).begin; i < held.get(held.size() - 1).end; i++) {
                    within.add(i);
                }
            }
        }
        StringBuilder out = new StringBuilder();
        for (int[] c : s.comments) {
            if (c[0] >= e.node.begin && c[1] <= e.node.end && !within.contains(c[0])) {
                out.append(s.text, c[0], c[1]).append(' ');
                e.carried++;
            }
        }
        e.comes = out + putText(s, place, way);
    }

    String putText(Src s, Pat p, Way way) {
        switch (p.op) {
            case 'a':
                return p.word;
            case '?':
            case '*': {
                List<Term> held = way.held(p.letter);
                return held.isEmpty() ? "" : s.text.substring(held.get(0).begin, held.get(held.size() - 1).end);
            }
            default: {
                String text = "(" + p.word;
                for (Pat part : p.parts) {
                    String t = putText(s, part, way);
                    text += t.isEmpty() ? "" : " " + t;
                }
                return text + ")";
            }
        }
    }

    /** Null if it can't be. */
    Src applied(Src s, List<Edit> edits) {
        String text = "";
        int from = 0;
        for (Edit e : edits) {
            text = join(text, s.text.substring(from, e.node.begin));
            text = join(text, e.comes);
            from = e.node.end;
        }
        text = join(text, s.text.substring(from));
        if (text.length() > 300) {
            return null;
        }
        try {
            return new Src(text);
        } catch (Fault f) {
            return null;
        }
    }

    static String join(String a, String b) {
        if (a.isEmpty() || b.isEmpty()) {
            return a + b;
        }
        String beside = "" + a.charAt(a.length() - 1) + b.charAt(0);
        return beside.matches("[a-z][a-z]|[0-9][0-9]") ? a + " " + b : a + b;
    }

    int edit(int way, int i, int what) {
        if (!isWay(way)) {
            return -1;
        }
        List<Edit> edits = walk(src, way);
        if (i == -1) {
            return what == 0 ? edits.size() : -1;
        }
        if (i < 0 || i >= edits.size()) {
            return -1;
        }
        Edit e = edits.get(i);
        switch (what) {
            case 0: return e.rule;
            case 1: return e.node.number;
            case 2: return e.comes.length();
            case 3: return e.carried;
            default: return -1;
        }
    }

    int comes(int way, int i, int k) {
        if (!isWay(way)) {
            return -1;
        }
        List<Edit> edits = walk(src, way);
        if (i < 0 || i >= edits.size() || k < 0 || k >= edits.get(i).comes.length()) {
            return -1;
        }
        return edits.get(i).comes.charAt(k);
    }

    int conflicts(int way, int what) {
        if (!isWay(way) || what < 0 || what > 2) {
            return -1;
        }
        Map<Integer, Integer> editRules = new HashMap<>();
        for (Edit e : walk(src, way)) {
            editRules.put(e.node.number, e.rule);
        }
        int none = 0;
        int several = 0;
        int fit = 0;
        for (Term t : src.nodes) {
            int b = bits(t);
            fit |= b;
            if (editRules.containsKey(t.number)) {
                several += Integer.bitCount(b) > 1 ? 1 : 0;
            } else {
                none += b != 0 ? 1 : 0;
            }
        }
        for (int r : editRules.values()) {
            fit &= ~(1 << r);
        }
        return what == 0 ? none : what == 1 ? several : fit;
    }

    int would(int way, int what) {
        if (!isWay(way) || what < 0 || what > 2) {
            return -1;
        }
        Src s = applied(src, walk(src, way));
        if (s == null) {
            return -3;
        }
        return what == 0 ? s.text.length() : what == 1 ? s.nodes.size() : s.comments.size();
    }

    int apply(int way) {
        if (!isWay(way)) {
            return -1;
        }
        List<Edit> edits = walk(src, way);
        if (edits.isEmpty()) {
            return 0;
        }
        Src s = applied(src, edits);
        if (s == null) {
            return -3;
        }
        remember(src.text);
        src = s;
        return edits.size();
    }

    /** The SOURCE now and those that rounds() would make one after the other. */
    List<Src> chain(int way, int n) {
        List<Src> list = new ArrayList<>();
        list.add(src);
        for (int i = 0; i < n; i++) {
            Src s = list.get(i);
            List<Edit> edits = walk(s, way);
            Src next = edits.isEmpty() ? null : applied(s, edits);
            if (next == null) {
                break;
            }
            list.add(next);
        }
        return list;
    }

    int rounds(int way, int n) {
        if (!isWay(way) || n < 1 || n > 6) {
            return -1;
        }
        List<Src> list = chain(way, n);
        if (list.size() > 1) {
            remember(src.text);
            src = list.get(list.size() - 1);
        }
        return list.size() - 1;
    }

    int after(int way, int n, int what) {
        if (!isWay(way) || n < 1 || n > 6 || what < 0 || what > 2) {
            return -1;
        }
        List<Src> list = chain(way, n);
        Src last = list.get(list.size() - 1);
        if (what == 0) {
            return last.text.length();
        }
        if (what == 1) {
            return walk(last, way).size();
        }
        Set<String> texts = new HashSet<>();
        for (Src s : list) {
            texts.add(s.text);
        }
        return texts.size() < list.size() ? 1 : 0;
    }

    int undo() {
        if (past.isEmpty()) {
            return -3;
        }
        src = new Src(past.remove(past.size() - 1));
        return past.size();
    }

    boolean keep(int k) {
        if (k != 0 && k != 1) {
            return false;
        }
        keptText[k] = src.text;
        keptRules[k] = rules.clone();
        return true;
    }

    boolean again(int k) {
        if (k != 0 && k != 1 || keptText[k] == null) {
            return false;
        }
        src = new Src(keptText[k]);
        rules = keptRules[k].clone();
        past.clear();
        return true;
    }

    int count(int what) {
        switch (what) {
            case 0: return src.nodes.size();
            case 1: return src.text.length();
            case 2: return src.comments.size();
            case 3: return ruleCount();
            case 4: return typed.length();
            case 5: return past.size();
            case 6: return Collections.max(src.nodes, Comparator.comparingInt(Term::depth)).depth() + 1;
            default: return -1;
        }
    }
}
