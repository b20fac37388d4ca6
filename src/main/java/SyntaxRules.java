import java.util.NoSuchElementException;

/**
 * Rules over syntax: a text of terms, kept byte for byte, and rules that rewrite it.
 *
 * All rows are made once, in the constructors, and used again by every call; only a new RULE makes
 * objects of its own, which never change later, so that keep() may hold them by reference.
 */
public final class SyntaxRules {
    public static final int NONE = -1;

    private static final int NO_SUCH = -2;
    private static final int CANNOT = -3;
    private static final int FAULT = -1000;

    private static final int MOST_SIGNS = 300;
    private static final int MOST_COMMENTS = MOST_SIGNS / 2;
    private static final int MOST_NODES = 60;
    private static final int MOST_PARTS = 12;
    private static final int MOST_OPEN = 16;
    private static final int MOST_LETTERS = 8;
    private static final int MOST_DIGITS = 4;
    private static final int MOST_RULES = 8;
    private static final int MOST_ITEMS = 20;
    private static final int MOST_ROWS = 2;
    private static final int MOST_WAYS = 500;
    private static final int MOST_ROUNDS = 6;
    private static final int MOST_PAST = 8;
    private static final int MOST_KEPT = 2;
    private static final int HOLES = 26;

    private static final int BLANK = 32;
    private static final int LINE_END = 10;
    private static final int LAST_PRINTED = 126;

    private static final int KIND_NUMBER = 0;
    private static final int KIND_WORD = 1;
    private static final int KIND_TERM = 2;

    private static final int OUTSIDE = 0;
    private static final int INSIDE = 1;

    private final Text typed = new Text();
    private Source now = new Source();
    private Source spare = new Source();
    private final Source paper = new Source();
    private final Rule[] rules = new Rule[MOST_RULES];
    private final RuleReader reader = new RuleReader();
    private final Fitting fitting = new Fitting();
    private final TestTree tree = new TestTree();
    private final Walk walk = new Walk();
    private final Writer writer = new Writer();
    private final Past past = new Past();
    private final Kept[] kept = new Kept[MOST_KEPT];
    private final Text[] seen = new Text[MOST_ROUNDS];

    public SyntaxRules() {
        for (int i = 0; i < MOST_KEPT; i++) {
            kept[i] = new Kept();
        }
        for (int i = 0; i < MOST_ROUNDS; i++) {
            seen[i] = new Text();
        }
        typed.signs[0] = 'a';
        typed.length = 1;
        now.read(typed);
        typed.length = 0;
    }

    // ---- the text

    public int sign(int v) {
        if (typed.length + 4 > MOST_SIGNS) {
            return NONE;
        }
        for (int shift = 24; shift >= 0; shift -= 8) {
            typed.signs[typed.length] = (v >>> shift) & 255;
            typed.length++;
        }
        return typed.length;
    }

    public boolean end(int n) {
        if (n < 0 || n > typed.length) {
            return false;
        }
        typed.length = n;
        return true;
    }

    public int source() {
        boolean stands = spare.read(typed);
        typed.length = 0;
        if (!stands) {
            return FAULT - spare.at;
        }
        past.add(now.text);
        turn();
        return now.nodes;
    }

    public int rule() {
        Rule read = reader.read(typed);
        typed.length = 0;
        if (read == null) {
            return FAULT - reader.at;
        }
        for (int i = 0; i < MOST_RULES; i++) {
            if (rules[i] == null) {
                rules[i] = read;
                return i;
            }
        }
        return CANNOT;
    }

    public int drop(int rule) {
        if (!isRule(rule)) {
            return NO_SUCH;
        }
        rules[rule] = null;
        return ruleCount();
    }

    // ---- what there is

    public int node(int node, int what) throws NoSuchElementException {
        if (!isNode(node)) {
            throw new NoSuchElementException();
        }
        switch (what) {
            case 0: return now.kind[node];
            case 1: return now.parent[node];
            case 2: return now.part[node];
            case 3: return now.parts[node];
            case 4: return now.begin[node];
            case 5: return now.behind[node] - now.begin[node];
            case 6: return now.size[node];
            case 7: return now.depth[node];
            default: return NONE;
        }
    }

    public int name(int node, int i) {
        if (!isNode(node) || i < 0 || i >= now.nameLength[node]) {
            return NONE;
        }
        return now.text.at(now.nameAt[node] + i);
    }

    public int comment(int i, int what) {
        if (i == NONE && what == 0) {
            return now.comments;
        }
        if (i < 0 || i >= now.comments) {
            return NONE;
        }
        switch (what) {
            case 0: return now.commentAt[i];
            case 1: return now.commentLength[i];
            case 2: return now.commentIn[i];
            default: return NONE;
        }
    }

    public int letter(int i) {
        return now.text.at(i);
    }

    public int alike(int a, int b) {
        if (!isNode(a) || !isNode(b)) {
            return NONE;
        }
        return now.sameNode(a, b) ? 1 : 0;
    }

    public int twins(int node, int what) {
        if (!isNode(node) || what < 0 || what > 1) {
            return NONE;
        }
        int twinCount = 0;
        for (int i = 0; i < now.nodes; i++) {
            if (now.sameNode(node, i)) {
                if (what == 1) {
                    return i;
                }
                twinCount++;
            }
        }
        return twinCount;
    }

    public int told(int rule, int what) {
        if (!isRule(rule)) {
            return NONE;
        }
        Rule its = rules[rule];
        switch (what) {
            case 0: return tree.layRow(its);
            case 1: return its.itemsOf(Rule.ROW, 0, its.patternEnd);
            case 2: return its.itemsOf(Rule.DEEP, 0, its.patternEnd);
            case 3: return Integer.bitCount(its.holeBits);
            case 4: return its.itemsOf(Rule.TERM, its.patternEnd, its.items);
            default: return NONE;
        }
    }

    // ---- what fits

    public int ways(int rule, int node) {
        if (!isRule(rule) || !isNode(node)) {
            return NONE;
        }
        return fitting.search(now, rules[rule], 0, node, MOST_WAYS);
    }

    public int held(int rule, int node, int letter, int what) {
        if (!isRule(rule) || !isNode(node) || letter < 0 || letter >= HOLES || what < 0 || what > 1) {
            return NONE;
        }
        int item = rules[rule].standing(0, letter);
        if (item == NONE || !fitting.fits(now, rules[rule], node)) {
            return NONE;
        }
        return what == 0 ? fitting.firstHeld(item) : fitting.rowLength[item];
    }

    public int found(int rule, int i) {
        if (!isRule(rule) || i < NONE) {
            return NONE;
        }
        int foundCount = 0;
        for (int n = 0; n < now.nodes; n++) {
            if (fitting.fits(now, rules[rule], n)) {
                if (foundCount == i) {
                    return n;
                }
                foundCount++;
            }
        }
        return i == NONE ? foundCount : NONE;
    }

    public int rulesOf(int node) {
        return isNode(node) ? fitting.fittingRules(now, rules, node) : NONE;
    }

    public int tests(int what) {
        switch (what) {
            case 0: return testsOfAll();
            case 1: return tree.layAll(rules);
            default: return NONE;
        }
    }

    public int asked(int node) {
        if (!isNode(node)) {
            return NONE;
        }
        tree.layAll(rules);
        return tree.askedOf(now, node, fitting);
    }

    // ---- walks

    public int edit(int way, int i, int what) {
        if (!isWay(way)) {
            return NONE;
        }
        walk.lay(now, rules, way, fitting);
        if (i == NONE && what == 0) {
            return walk.edits;
        }
        if (i < 0 || i >= walk.edits) {
            return NONE;
        }
        switch (what) {
            case 0: return walk.ruleOf(i);
            case 1: return walk.editNode[i];
            case 2: return writtenAlone(i, NONE).length;
            case 3: return writtenAlone(i, NONE).carried;
            default: return NONE;
        }
    }

    public int comes(int way, int i, int k) {
        if (!isWay(way) || k < 0) {
            return NONE;
        }
        walk.lay(now, rules, way, fitting);
        if (i < 0 || i >= walk.edits) {
            return NONE;
        }
        return writtenAlone(i, k).caught;
    }

    public int conflicts(int way, int what) {
        if (!isWay(way) || what < 0 || what > 2) {
            return NONE;
        }
        walk.lay(now, rules, way, fitting);
        int noEdit = 0;
        int severalRules = 0;
        int fitBits = 0;
        int editBits = 0;
        for (int n = 0; n < now.nodes; n++) {
            int bits = walk.fitBits[n];
            fitBits |= bits;
            if (walk.ruleAt[n] != NONE) {
                editBits |= 1 << walk.ruleAt[n];
                severalRules += Integer.bitCount(bits) > 1 ? 1 : 0;
            } else if (bits != 0) {
                noEdit++;
            }
        }
        if (what == 0) {
            return noEdit;
        }
        return what == 1 ? severalRules : fitBits & ~editBits;
    }

    public int would(int way, int what) {
        if (!isWay(way) || what < 0 || what > 2) {
            return NONE;
        }
        int edits = step(now, spare, way);
        if (edits == CANNOT) {
            return CANNOT;
        }
        Source then = edits == 0 ? now : spare;
        if (what == 0) {
            return then.text.length;
        }
        return what == 1 ? then.nodes : then.comments;
    }

    public int apply(int way) {
        if (!isWay(way)) {
            return NONE;
        }
        int edits = step(now, spare, way);
        if (edits > 0) {
            past.add(now.text);
            turn();
        }
        return edits;
    }

    public int rounds(int way, int n) {
        if (!isWay(way) || n < 1 || n > MOST_ROUNDS) {
            return NONE;
        }
        for (int times = 0; times < n; times++) {
            if (step(now, spare, way) <= 0) {
                return times;
            }
            if (times == 0) {
                past.add(now.text);
            }
            turn();
        }
        return n;
    }

    public int after(int way, int n, int what) {
        if (!isWay(way) || n < 1 || n > MOST_ROUNDS || what < 0 || what > 2) {
            return NONE;
        }
        Source from = now;
        boolean repeated = false;
        for (int times = 0; times < n; times++) {
            Source into = from == spare ? paper : spare;
            if (step(from, into, way) <= 0) {
                break;
            }
            seen[times].take(from.text);
            repeated = repeated || wasSeen(into.text, times);
            from = into;
        }
        if (what == 0) {
            return from.text.length;
        }
        if (what == 2) {
            return repeated ? 1 : 0;
        }
        walk.lay(from, rules, way, fitting);
        return walk.edits;
    }

    // ---- back

    public int undo() {
        Text latest = past.takeLatest();
        if (latest == null) {
            return CANNOT;
        }
        now.read(latest);
        return past.held;
    }

    public boolean keep(int k) {
        if (k < 0 || k >= MOST_KEPT) {
            return false;
        }
        kept[k].text.take(now.text);
        copyRules(rules, kept[k].rules);
        kept[k].filled = true;
        return true;
    }

    public boolean again(int k) {
        if (k < 0 || k >= MOST_KEPT || !kept[k].filled) {
            return false;
        }
        now.read(kept[k].text);
        copyRules(kept[k].rules, rules);
        past.forget();
        return true;
    }

    public int count(int what) {
        switch (what) {
            case 0: return now.nodes;
            case 1: return now.text.length;
            case 2: return now.comments;
            case 3: return ruleCount();
            case 4: return typed.length;
            case 5: return past.held;
            case 6: return now.mostWithin();
            default: return NONE;
        }
    }

    // ---- what the calls share

    private boolean isNode(int node) {
        return node >= 0 && node < now.nodes;
    }

    private boolean isRule(int rule) {
        return rule >= 0 && rule < MOST_RULES && rules[rule] != null;
    }

    private static boolean isWay(int way) {
        return way == OUTSIDE || way == INSIDE;
    }

    private static boolean isLetter(int sign) {
        return sign >= 'a' && sign <= 'z';
    }

    private static boolean isDigit(int sign) {
        return sign >= '0' && sign <= '9';
    }

    private int ruleCount() {
        int left = 0;
        for (int i = 0; i < MOST_RULES; i++) {
            left += rules[i] == null ? 0 : 1;
        }
        return left;
    }

    private int testsOfAll() {
        int sum = 0;
        for (int i = 0; i < MOST_RULES; i++) {
            sum += rules[i] == null ? 0 : tree.layRow(rules[i]);
        }
        return sum;
    }

    private void turn() {
        Source old = now;
        now = spare;
        spare = old;
    }

    /** What comes by the i-th EDIT of the WALK that was laid last, with no blanks put beside. */
    private Writer writtenAlone(int i, int caughtAt) {
        writer.clear(caughtAt);
        writeEdit(now, i);
        return writer;
    }

    private void writeEdit(Source from, int i) {
        Rule its = rules[walk.ruleOf(i)];
        if (its != null && fitting.fits(from, its, walk.editNode[i])) {
            writer.writeEdit(from, its, walk.editNode[i], fitting);
        }
    }

    /** One APPLIED WALK: how many EDITS; with none of them nothing is written. */
    private int step(Source from, Source into, int way) {
        walk.lay(from, rules, way, fitting);
        if (walk.edits == 0) {
            return 0;
        }
        writer.clear(NONE);
        int behind = 0;
        for (int i = 0; i < walk.edits; i++) {
            writer.putRow(from.text, behind, from.begin[walk.editNode[i]]);
            writer.putSeam();
            writeEdit(from, i);
            writer.putSeam();
            behind = from.behind[walk.editNode[i]];
        }
        writer.putRow(from.text, behind, from.text.length);
        if (writer.length > MOST_SIGNS || !into.read(writer.written())) {
            return CANNOT;
        }
        return walk.edits;
    }

    private boolean wasSeen(Text text, int latest) {
        for (int i = 0; i <= latest; i++) {
            if (seen[i].same(text)) {
                return true;
            }
        }
        return false;
    }

    private static void copyRules(Rule[] from, Rule[] into) {
        for (int i = 0; i < MOST_RULES; i++) {
            into[i] = from[i];
        }
    }

    /** Signs in a row, MOST_SIGNS at most. */
    private static final class Text {
        final int[] signs = new int[MOST_SIGNS];
        int length;

        /** Safe for every i, so that readers may look at the sign behind the last. */
        int at(int i) {
            return i >= 0 && i < length ? signs[i] : NONE;
        }

        void take(Text other) {
            System.arraycopy(other.signs, 0, signs, 0, other.length);
            length = other.length;
        }

        boolean same(Text other) {
            return length == other.length && sameRow(0, other, 0, length);
        }

        boolean sameRow(int from, Text other, int otherFrom, int many) {
            if (from < 0 || otherFrom < 0 || from + many > length || otherFrom + many > other.length) {
                return false;
            }
            for (int i = 0; i < many; i++) {
                if (signs[from + i] != other.signs[otherFrom + i]) {
                    return false;
                }
            }
            return true;
        }

        /** How many letters (else digits) stand in a row at from; beyond most + 1 they are not looked at. */
        int rowAt(int from, boolean letters, int most) {
            for (int i = 0; i <= most; i++) {
                int sign = at(from + i);
                if (letters ? !isLetter(sign) : !isDigit(sign)) {
                    return i;
                }
            }
            return most + 1;
        }
    }

    /** A SOURCE that has been read: its NODES, numbered as they begin, and its COMMENTS. */
    private static final class Source {
        final Text text = new Text();
        final int[] kind = new int[MOST_NODES];
        final int[] parent = new int[MOST_NODES];
        final int[] part = new int[MOST_NODES];
        final int[] parts = new int[MOST_NODES];
        final int[] begin = new int[MOST_NODES];
        final int[] behind = new int[MOST_NODES];
        final int[] size = new int[MOST_NODES];
        final int[] depth = new int[MOST_NODES];
        final int[] nameAt = new int[MOST_NODES];
        final int[] nameLength = new int[MOST_NODES];
        final int[] commentAt = new int[MOST_COMMENTS];
        final int[] commentLength = new int[MOST_COMMENTS];
        final int[] commentIn = new int[MOST_COMMENTS];
        int nodes;
        int comments;
        /** Where reading stands; if it fails, that is the FAULT. */
        int at;
        private int open;

        boolean read(Text from) {
            text.take(from);
            nodes = 0;
            comments = 0;
            at = 0;
            open = NONE;
            return readTerm() && passLayout() && at == text.length;
        }

        private boolean readTerm() {
            for (int i = 0; i <= MOST_SIGNS; i++) {
                if (!passLayout()) {
                    return false;
                }
                int sign = text.at(at);
                if (sign == ')' && open != NONE) {
                    closeTerm();
                } else if (!readNode(sign)) {
                    return false;
                }
                if (open == NONE) {
                    return true;
                }
            }
            return false;
        }

        private void closeTerm() {
            at++;
            int closed = open;
            finishNode(closed);
            open = parent[closed];
        }

        private boolean readNode(int sign) {
            boolean opens = sign == '(';
            boolean letters = isLetter(sign);
            if (!opens && !letters && !isDigit(sign) || !hasRoom(opens)) {
                return false;
            }
            int added = addNode(opens ? KIND_TERM : letters ? KIND_WORD : KIND_NUMBER);
            if (!opens) {
                return readName(added, letters) && finishNode(added);
            }
            at++;
            open = added;
            return passLayout() && isLetter(text.at(at)) && readName(added, true);
        }

        private boolean hasRoom(boolean opens) {
            if (nodes == MOST_NODES) {
                return false;
            }
            return open == NONE || parts[open] < MOST_PARTS && !(opens && depth[open] + 1 == MOST_OPEN);
        }

        private int addNode(int itsKind) {
            int added = nodes;
            nodes++;
            kind[added] = itsKind;
            parent[added] = open;
            parts[added] = 0;
            begin[added] = at;
            if (open == NONE) {
                part[added] = NONE;
                depth[added] = 0;
            } else {
                part[added] = parts[open];
                depth[added] = depth[open] + 1;
                parts[open]++;
            }
            return added;
        }

        private boolean readName(int node, boolean letters) {
            int most = letters ? MOST_LETTERS : MOST_DIGITS;
            int row = text.rowAt(at, letters, most);
            if (row > most) {
                at += most;
                return false;
            }
            nameAt[node] = at;
            nameLength[node] = row;
            at += row;
            return true;
        }

        private boolean finishNode(int node) {
            behind[node] = at;
            size[node] = nodes - node;
            return true;
        }

        private boolean passLayout() {
            for (int i = 0; i <= MOST_SIGNS; i++) {
                int sign = text.at(at);
                if (sign == BLANK || sign == LINE_END) {
                    at++;
                } else if (sign != '[') {
                    return true;
                } else if (!passComment()) {
                    return false;
                }
            }
            return true;
        }

        private boolean passComment() {
            for (int i = at + 1; i < text.length; i++) {
                int sign = text.signs[i];
                if (sign == ']') {
                    addComment(i + 1);
                    return true;
                }
                if (sign != LINE_END && (sign < BLANK || sign > LAST_PRINTED)) {
                    at = i;
                    return false;
                }
            }
            at = text.length;
            return false;
        }

        private void addComment(int itsBehind) {
            if (comments < MOST_COMMENTS) {
                commentAt[comments] = at;
                commentLength[comments] = itsBehind - at;
                commentIn[comments] = open;
                comments++;
            }
            at = itsBehind;
        }

        boolean sameNode(int a, int b) {
            return size[a] == size[b] && sameRow(a, b, size[a]);
        }

        /**
         * Whether two stretches of NODES by numbers are ALIKE one by one: numbers follow the begins,
         * so KINDS, signs and how many PARTS each has leave no room for another shape.
         */
        boolean sameRow(int a, int b, int many) {
            for (int i = 0; i < many && a != b; i++) {
                int x = a + i;
                int y = b + i;
                if (kind[x] != kind[y] || parts[x] != parts[y] || nameLength[x] != nameLength[y]
                    || !text.sameRow(nameAt[x], text, nameAt[y], nameLength[x])) {
                    return false;
                }
            }
            return true;
        }

        /** Whether a NODE's WORD, NUMBER or HEAD is the one of an item. */
        boolean isNamed(int node, Rule rule, int item) {
            int many = nameLength[node];
            return many == rule.wordLength[item]
                && text.sameRow(nameAt[node], rule.text, rule.wordAt[item], many);
        }

        int partOf(int node, int which) {
            if (which < 0 || which >= parts[node]) {
                return NONE;
            }
            int found = node + 1;
            for (int i = 0; i < which; i++) {
                found += size[found];
            }
            return found;
        }

        int mostWithin() {
            int deepest = 0;
            for (int i = 0; i < nodes; i++) {
                deepest = Math.max(deepest, depth[i]);
            }
            return deepest + 1;
        }
    }

    /**
     * A RULE that has been read: the items of its PATTERN, then those of its PUT, each as it begins.
     * What is in an item stands right behind it.
     */
    private static final class Rule {
        static final int ANY = 0;
        static final int HOLE = 1;
        static final int DEEP = 2;
        static final int LITERAL = 3;
        static final int TERM = 4;
        static final int ROW = 5;

        final Text text = new Text();
        final int[] op = new int[2 * MOST_ITEMS];
        final int[] hole = new int[2 * MOST_ITEMS];
        final int[] kind = new int[2 * MOST_ITEMS];
        final int[] parent = new int[2 * MOST_ITEMS];
        /** The item ahead in the same ( ). */
        final int[] before = new int[2 * MOST_ITEMS];
        final int[] part = new int[2 * MOST_ITEMS];
        final int[] parts = new int[2 * MOST_ITEMS];
        /** How many *L an item has as its own parts. */
        final int[] rows = new int[2 * MOST_ITEMS];
        /** How many *L there are in the same ( ) up to this item, itself, too. */
        final int[] rowsSoFar = new int[2 * MOST_ITEMS];
        /** How many items there are in an item, itself, too. */
        final int[] span = new int[2 * MOST_ITEMS];
        final int[] wordAt = new int[2 * MOST_ITEMS];
        final int[] wordLength = new int[2 * MOST_ITEMS];
        int items;
        int patternEnd;
        int holeBits;

        int itemsOf(int wanted, int from, int to) {
            int sum = 0;
            for (int i = from; i < to; i++) {
                sum += op[i] == wanted ? 1 : 0;
            }
            return sum;
        }

        /** The first item of the PATTERN, from base on, that bears this L. */
        int standing(int base, int letter) {
            for (int i = base; i < patternEnd; i++) {
                if (hole[i] == letter) {
                    return i;
                }
            }
            return NONE;
        }

        int rowsBehind(int item) {
            return parent[item] == NONE ? 0 : rows[parent[item]] - rowsSoFar[item];
        }

        int singlesBehind(int item) {
            int above = parent[item];
            return above == NONE ? 0 : parts[above] - part[item] - 1 - (rows[above] - rowsSoFar[item]);
        }

        boolean sameWord(int item, Rule other, int otherItem) {
            int many = wordLength[item];
            return many == other.wordLength[otherItem]
                && text.sameRow(wordAt[item], other.text, other.wordAt[otherItem], many);
        }

        boolean sameTokens(int item, Rule other, int otherItem) {
            if (span[item] != other.span[otherItem]) {
                return false;
            }
            for (int i = 0; i < span[item]; i++) {
                int x = item + i;
                int y = otherItem + i;
                if (op[x] != other.op[y] || hole[x] != other.hole[y] || kind[x] != other.kind[y]
                    || parts[x] != other.parts[y] || !sameWord(x, other, y)) {
                    return false;
                }
            }
            return true;
        }

        boolean samePath(int item, Rule other, int otherItem) {
            int x = item;
            int y = otherItem;
            for (int i = 0; i < MOST_ITEMS && x != NONE && y != NONE; i++) {
                if (part[x] != other.part[y]) {
                    return false;
                }
                x = parent[x];
                y = other.parent[y];
            }
            return x == y;
        }
    }

    /** Reads THE TEXT as a RULE. */
    private static final class RuleReader {
        /** Where reading stands; if it fails, that is the FAULT. */
        int at;
        private Text text;
        private Rule rule;
        private int open;
        private int sideBegin;
        private boolean inPut;
        private int rowsRead;
        private int deepsRead;
        private int singleHoles;
        private int rowHoles;
        private final int[] latestPart = new int[2 * MOST_ITEMS];

        /** The RULE, or null. */
        Rule read(Text from) {
            rule = new Rule();
            rule.text.take(from);
            text = rule.text;
            at = 0;
            rowsRead = 0;
            deepsRead = 0;
            singleHoles = 0;
            rowHoles = 0;
            inPut = false;
            if (!readSide() || !passEquals()) {
                return null;
            }
            inPut = true;
            if (!readSide()) {
                return null;
            }
            passBlanks();
            return at == text.length ? rule : null;
        }

        private boolean passEquals() {
            rule.patternEnd = rule.items;
            rule.holeBits = singleHoles | rowHoles;
            passBlanks();
            if (text.at(at) != '=') {
                return false;
            }
            at++;
            return true;
        }

        private boolean readSide() {
            open = NONE;
            sideBegin = rule.items;
            for (int i = 0; i <= MOST_SIGNS; i++) {
                passBlanks();
                int sign = text.at(at);
                if (sign == ')' && isInTerm()) {
                    at++;
                    finishItem(open);
                } else if (!readItem(sign)) {
                    return false;
                }
                if (open == NONE) {
                    return true;
                }
            }
            return false;
        }

        private void passBlanks() {
            for (int i = 0; i <= MOST_SIGNS && text.at(at) == BLANK; i++) {
                at++;
            }
        }

        private boolean isInTerm() {
            return open != NONE && rule.op[open] == Rule.TERM;
        }

        private boolean readItem(int sign) {
            int op = opOf(sign);
            if (op == NONE || rule.items - sideBegin == MOST_ITEMS || !mayStand(op)) {
                return false;
            }
            int added = addItem(op);
            if (op == Rule.LITERAL) {
                return readWord(added, isLetter(sign)) && finishItem(added);
            }
            at++;
            switch (op) {
                case Rule.HOLE:
                case Rule.ROW:
                    return readHole(added) && finishItem(added);
                case Rule.DEEP:
                    open = added;
                    return true;
                case Rule.TERM:
                    open = added;
                    passBlanks();
                    return isLetter(text.at(at)) && readWord(added, true);
                default:
                    return finishItem(added);
            }
        }

        private static int opOf(int sign) {
            switch (sign) {
                case '_': return Rule.ANY;
                case '?': return Rule.HOLE;
                case '^': return Rule.DEEP;
                case '(': return Rule.TERM;
                case '*': return Rule.ROW;
                default: return isLetter(sign) || isDigit(sign) ? Rule.LITERAL : NONE;
            }
        }

        private boolean mayStand(int op) {
            switch (op) {
                case Rule.ANY: return !inPut;
                case Rule.DEEP: return !inPut && deepsRead == 0;
                case Rule.ROW: return isInTerm() && (inPut || rowsRead < MOST_ROWS);
                default: return true;
            }
        }

        private int addItem(int op) {
            int added = rule.items;
            rule.items++;
            rule.op[added] = op;
            rule.hole[added] = NONE;
            rule.kind[added] = NONE;
            rule.parent[added] = open;
            rule.before[added] = NONE;
            if (!inPut) {
                deepsRead += op == Rule.DEEP ? 1 : 0;
                rowsRead += op == Rule.ROW ? 1 : 0;
            }
            if (open != NONE) {
                hangItem(added);
            }
            return added;
        }

        private void hangItem(int item) {
            rule.part[item] = rule.parts[open];
            rule.before[item] = rule.parts[open] == 0 ? NONE : latestPart[open];
            latestPart[open] = item;
            rule.parts[open]++;
            rule.rows[open] += rule.op[item] == Rule.ROW ? 1 : 0;
            rule.rowsSoFar[item] = rule.rows[open];
        }

        private boolean readWord(int item, boolean letters) {
            int most = letters ? MOST_LETTERS : MOST_DIGITS;
            int row = text.rowAt(at, letters, most);
            if (row > most) {
                at += most;
                return false;
            }
            rule.wordAt[item] = at;
            rule.wordLength[item] = row;
            at += row;
            return true;
        }

        private boolean readHole(int item) {
            int letter = text.at(at) - 'A';
            boolean isRow = rule.op[item] == Rule.ROW;
            if (letter < 0 || letter >= HOLES || !mayBear(1 << letter, isRow)) {
                return false;
            }
            at++;
            rule.hole[item] = letter;
            return isRow || inPut || text.at(at) != ':' || readKind(item);
        }

        private boolean mayBear(int bit, boolean isRow) {
            int others = isRow ? singleHoles : rowHoles;
            int own = isRow ? rowHoles : singleHoles;
            if ((others & bit) != 0 || inPut && (own & bit) == 0) {
                return false;
            }
            if (isRow) {
                rowHoles |= bit;
            } else {
                singleHoles |= bit;
            }
            return true;
        }

        private boolean readKind(int item) {
            at++;
            switch (text.at(at)) {
                case 'n': rule.kind[item] = KIND_NUMBER; break;
                case 'w': rule.kind[item] = KIND_WORD; break;
                case 'c': rule.kind[item] = KIND_TERM; break;
                default: return false;
            }
            at++;
            return true;
        }

        /** An item is whole; with it a ^ ahead of it is whole, too. */
        private boolean finishItem(int item) {
            rule.span[item] = rule.items - item;
            open = rule.parent[item];
            if (open != NONE && rule.op[open] == Rule.DEEP) {
                rule.span[open] = rule.items - open;
                open = rule.parent[open];
            }
            return true;
        }
    }

    /**
     * Lays a PATTERN on a NODE. Items are gone through as they begin, and what each takes is written
     * down by item: going back to a choice needs nothing restored, as all behind it is written anew.
     */
    private static final class Fitting {
        private static final int MOST_CHOICES = MOST_ROWS + 1;
        private static final int MOST_STEPS = 1000000;

        /** The first NODE taken, the last one, how many in a row; where the next PART begins, how many are left. */
        final int[] at = new int[MOST_ITEMS];
        final int[] last = new int[MOST_ITEMS];
        final int[] rowLength = new int[MOST_ITEMS];
        private final int[] next = new int[MOST_ITEMS];
        private final int[] left = new int[MOST_ITEMS];
        private final int[] choices = new int[MOST_CHOICES];
        private int choicesOpen;
        private Source source;
        private Rule rule;
        private int base;
        private int start;
        private int room;

        boolean fits(Source itsSource, Rule itsRule, int node) {
            return search(itsSource, itsRule, 0, node, 1) > 0;
        }

        int fittingRules(Source itsSource, Rule[] rules, int node) {
            int bits = 0;
            for (int i = 0; i < MOST_RULES; i++) {
                if (rules[i] != null && search(itsSource, rules[i], 0, node, 1) > 0) {
                    bits |= 1 << i;
                }
            }
            return bits;
        }

        int firstHeld(int item) {
            return rowLength[item] == 0 ? NONE : at[item];
        }

        /**
         * How many WAYS the item itsBase of the PATTERN fits a NODE by itself, most at most: what the
         * last of them holds can be had afterwards, so that with most = 1 it is the first WAY.
         */
        int search(Source itsSource, Rule itsRule, int itsBase, int node, int most) {
            source = itsSource;
            rule = itsRule;
            base = itsBase;
            choicesOpen = 0;
            int end = base + rule.span[base];
            int found = 0;
            int item = base;
            boolean isNew = true;
            for (int steps = 0; steps < MOST_STEPS && item != NONE; steps++) {
                boolean stands = (!isNew || enter(item, node)) && isAsBefore(item);
                if (stands && item + 1 == end) {
                    found++;
                    if (found >= most) {
                        return found;
                    }
                }
                isNew = stands && item + 1 < end;
                item = isNew ? item + 1 : nextChoice();
            }
            return found;
        }

        /** The latest item that can still choose otherwise, having done so; or NONE. */
        private int nextChoice() {
            for (int i = choicesOpen - 1; i >= 0; i--) {
                if (choosesMore(choices[i])) {
                    return choices[i];
                }
                choicesOpen = i;
            }
            return NONE;
        }

        private boolean choosesMore(int item) {
            if (rule.op[item] == Rule.DEEP) {
                at[item]++;
                return at[item] < next[item];
            }
            if (left[item] <= rule.singlesBehind(item)) {
                return false;
            }
            takePart(item);
            return true;
        }

        /** Finds where an item begins to take, and how many PARTS there are for it and those behind. */
        private void reach(int item, int node) {
            int above = item == base ? NONE : rule.parent[item];
            if (above == NONE) {
                start = node;
                room = 1;
                return;
            }
            int before = rule.before[item];
            if (rule.op[above] == Rule.DEEP) {
                start = at[above];
                room = 1;
            } else if (before == NONE) {
                start = at[above] + 1;
                room = source.parts[at[above]];
            } else {
                start = next[before];
                room = left[before];
            }
        }

        private boolean enter(int item, int node) {
            reach(item, node);
            if (rule.op[item] == Rule.ROW) {
                return enterRow(item);
            }
            if (room < 1) {
                return false;
            }
            at[item] = start;
            last[item] = start;
            rowLength[item] = 1;
            next[item] = start + source.size[start];
            left[item] = room - 1;
            boolean isTerm = source.kind[start] == KIND_TERM;
            switch (rule.op[item]) {
                case Rule.HOLE: return rule.kind[item] == NONE || rule.kind[item] == source.kind[start];
                case Rule.DEEP: return openChoice(item);
                case Rule.LITERAL: return !isTerm && source.isNamed(start, rule, item);
                case Rule.TERM: return isTerm && source.isNamed(start, rule, item) && hasParts(item);
                default: return true;
            }
        }

        private boolean hasParts(int item) {
            int singles = rule.parts[item] - rule.rows[item];
            return rule.rows[item] == 0 ? source.parts[start] == singles : source.parts[start] >= singles;
        }

        private boolean openChoice(int item) {
            if (choicesOpen < MOST_CHOICES) {
                choices[choicesOpen] = item;
                choicesOpen++;
            }
            return true;
        }

        /** The last *L of a ( ) has no choice: it takes what those behind it leave. */
        private boolean enterRow(int item) {
            at[item] = start;
            last[item] = NONE;
            rowLength[item] = 0;
            next[item] = start;
            left[item] = room;
            if (rule.rowsBehind(item) > 0) {
                return openChoice(item);
            }
            int taken = room - rule.singlesBehind(item);
            for (int i = 0; i < taken; i++) {
                takePart(item);
            }
            return true;
        }

        private void takePart(int item) {
            last[item] = next[item];
            next[item] += source.size[next[item]];
            left[item]--;
            rowLength[item]++;
        }

        /** Whether an L holds what is ALIKE with what it held first. */
        private boolean isAsBefore(int item) {
            int first = rule.hole[item] == NONE ? item : rule.standing(base, rule.hole[item]);
            if (first == NONE || first == item) {
                return true;
            }
            int many = next[item] - at[item];
            return rowLength[first] == rowLength[item] && next[first] - at[first] == many
                && source.sameRow(at[first], at[item], many);
        }
    }

    /** The TESTS of PATTERNS: the row of one, and the tree that all RULES share. */
    private static final class TestTree {
        private static final int MOST_ROW = 2 * MOST_ITEMS;
        private static final int MOST_TESTS = MOST_RULES * MOST_ROW;

        private static final int JUST = 0;
        private static final int HEAD = 1;
        private static final int PARTS = 2;
        private static final int KIND = 3;
        private static final int ALIKE = 4;
        private static final int FITS = 5;

        private int rowLength;
        private final int[] rowType = new int[MOST_ROW];
        private final int[] rowItem = new int[MOST_ROW];
        private final int[] rowOther = new int[MOST_ROW];
        private final int[] firstAt = new int[HOLES];

        private int tests;
        private int topmost;
        private final int[] type = new int[MOST_TESTS];
        private final Rule[] rule = new Rule[MOST_TESTS];
        private final int[] item = new int[MOST_TESTS];
        private final int[] other = new int[MOST_TESTS];
        private final int[] above = new int[MOST_TESTS];
        private final int[] below = new int[MOST_TESTS];
        private final int[] beside = new int[MOST_TESTS];
        private final boolean[] isSo = new boolean[MOST_TESTS];
        private final int[] path = new int[MOST_ITEMS];

        /** Lays out the TESTS of one PATTERN: how many. */
        int layRow(Rule laid) {
            rowLength = 0;
            for (int i = 0; i < HOLES; i++) {
                firstAt[i] = NONE;
            }
            int next = 0;
            for (int i = 0; i < laid.patternEnd; i++) {
                if (i >= next) {
                    next = i + layItem(laid, i);
                }
            }
            return rowLength;
        }

        /** Lays out the TESTS of one item: for how many items they stand. */
        private int layItem(Rule laid, int i) {
            if (laid.op[i] == Rule.DEEP || laid.rows[i] > 0) {
                addTest(FITS, i, NONE);
                return laid.span[i];
            }
            if (laid.op[i] == Rule.TERM) {
                addTest(HEAD, i, NONE);
                addTest(PARTS, i, NONE);
            } else if (laid.op[i] == Rule.LITERAL) {
                addTest(JUST, i, NONE);
            } else if (laid.op[i] == Rule.HOLE) {
                layHole(laid, i);
            }
            return 1;
        }

        private void layHole(Rule laid, int hole) {
            int letter = laid.hole[hole];
            if (laid.kind[hole] != NONE) {
                addTest(KIND, hole, NONE);
            }
            if (firstAt[letter] == NONE) {
                firstAt[letter] = hole;
            } else {
                addTest(ALIKE, hole, firstAt[letter]);
            }
        }

        private void addTest(int itsType, int itsItem, int itsOther) {
            if (rowLength < MOST_ROW) {
                rowType[rowLength] = itsType;
                rowItem[rowLength] = itsItem;
                rowOther[rowLength] = itsOther;
                rowLength++;
            }
        }

        /** Lays the rows of all RULES into one tree: how many TESTS it has. */
        int layAll(Rule[] rules) {
            tests = 0;
            topmost = NONE;
            for (int i = 0; i < MOST_RULES; i++) {
                if (rules[i] != null) {
                    hangRow(rules[i]);
                }
            }
            return tests;
        }

        private void hangRow(Rule laid) {
            layRow(laid);
            int under = NONE;
            for (int i = 0; i < rowLength; i++) {
                int same = findBelow(under, laid, i);
                under = same == NONE ? hangTest(under, laid, i) : same;
            }
        }

        private int findBelow(int under, Rule laid, int i) {
            int test = under == NONE ? topmost : below[under];
            for (int tries = 0; tries < MOST_TESTS && test != NONE; tries++) {
                if (asksSame(test, laid, i)) {
                    return test;
                }
                test = beside[test];
            }
            return NONE;
        }

        private boolean asksSame(int test, Rule laid, int i) {
            Rule hung = rule[test];
            if (hung == null || type[test] != rowType[i] || !hung.samePath(item[test], laid, rowItem[i])) {
                return false;
            }
            switch (rowType[i]) {
                case PARTS: return hung.parts[item[test]] == laid.parts[rowItem[i]];
                case KIND: return hung.kind[item[test]] == laid.kind[rowItem[i]];
                case ALIKE: return hung.samePath(other[test], laid, rowOther[i]);
                case FITS: return hung.sameTokens(item[test], laid, rowItem[i]);
                default: return hung.sameWord(item[test], laid, rowItem[i]);
            }
        }

        private int hangTest(int under, Rule laid, int i) {
            if (tests == MOST_TESTS) {
                return under;
            }
            int added = tests;
            tests++;
            type[added] = rowType[i];
            rule[added] = laid;
            item[added] = rowItem[i];
            other[added] = rowOther[i];
            above[added] = under;
            below[added] = NONE;
            if (under == NONE) {
                beside[added] = topmost;
                topmost = added;
            } else {
                beside[added] = below[under];
                below[under] = added;
            }
            return added;
        }

        /** A TEST stands behind the one above it, so that one pass through the tree is enough. */
        int askedOf(Source source, int node, Fitting fitting) {
            int sum = 0;
            for (int i = 0; i < tests; i++) {
                boolean isAsked = above[i] == NONE || isSo[above[i]];
                isSo[i] = isAsked && holds(i, source, node, fitting);
                sum += isAsked ? 1 : 0;
            }
            return sum;
        }

        private boolean holds(int test, Source source, int node, Fitting fitting) {
            Rule its = rule[test];
            int i = item[test];
            int there = its == null ? NONE : follow(its, i, source, node);
            if (there == NONE) {
                return false;
            }
            switch (type[test]) {
                case HEAD: return source.kind[there] == KIND_TERM && source.isNamed(there, its, i);
                case PARTS: return source.parts[there] == its.parts[i];
                case KIND: return source.kind[there] == its.kind[i];
                case ALIKE: return isTwin(source, there, follow(its, other[test], source, node));
                case FITS: return fitting.search(source, its, i, there, 1) > 0;
                default: return source.kind[there] != KIND_TERM && source.isNamed(there, its, i);
            }
        }

        private static boolean isTwin(Source source, int a, int b) {
            return b != NONE && source.sameNode(a, b);
        }

        /** The NODE at the PATH of an item. */
        private int follow(Rule its, int last, Source source, int node) {
            int steps = 0;
            int i = last;
            while (steps < MOST_ITEMS && its.parent[i] != NONE) {
                path[steps] = its.part[i];
                steps++;
                i = its.parent[i];
            }
            int there = node;
            for (int k = steps - 1; k >= 0 && there != NONE; k--) {
                there = source.partOf(there, path[k]);
            }
            return there;
        }
    }

    /** The EDITS of a WALK. */
    private static final class Walk {
        int edits;
        final int[] editNode = new int[MOST_NODES];
        /** The RULE by which a NODE is an EDIT, or NONE. */
        final int[] ruleAt = new int[MOST_NODES];
        /** The RULES that FIT a NODE. */
        final int[] fitBits = new int[MOST_NODES];
        private final boolean[] hasEdit = new boolean[MOST_NODES];

        void lay(Source source, Rule[] rules, int way, Fitting fitting) {
            for (int i = 0; i < source.nodes; i++) {
                fitBits[i] = fitting.fittingRules(source, rules, i);
                ruleAt[i] = NONE;
                hasEdit[i] = false;
            }
            if (way == OUTSIDE) {
                fromOutside(source);
            } else {
                fromInside(source);
            }
            // EDITS never lie in one another, so that by numbers they are in the order of their PLACES.
            edits = 0;
            for (int i = 0; i < source.nodes; i++) {
                if (ruleAt[i] != NONE) {
                    editNode[edits] = i;
                    edits++;
                }
            }
        }

        private void fromOutside(Source source) {
            int free = 0;
            for (int i = 0; i < source.nodes; i++) {
                if (i >= free && fitBits[i] != 0) {
                    ruleAt[i] = Integer.numberOfTrailingZeros(fitBits[i]);
                    free = i + source.size[i];
                }
            }
        }

        /** What is in a NODE has higher numbers: going down by numbers it is settled ahead of the NODE. */
        private void fromInside(Source source) {
            for (int i = source.nodes - 1; i >= 0; i--) {
                if (!hasEdit[i] && fitBits[i] != 0) {
                    ruleAt[i] = Integer.numberOfTrailingZeros(fitBits[i]);
                    hasEdit[i] = true;
                }
                if (hasEdit[i] && source.parent[i] != NONE) {
                    hasEdit[source.parent[i]] = true;
                }
            }
        }

        int ruleOf(int edit) {
            return ruleAt[editNode[edit]];
        }
    }

    /** Writes what comes in place of NODES; signs beyond the most that a SOURCE has are only counted. */
    private static final class Writer {
        int length;
        int carried;
        /** The sign at the place that clear() named. */
        int caught;
        private int caughtAt;
        private int latest;
        private boolean atSeam;
        private final Text out = new Text();
        private final int[] heldFrom = new int[2 * MOST_ITEMS];
        private final int[] heldBehind = new int[2 * MOST_ITEMS];

        void clear(int itsCaughtAt) {
            length = 0;
            carried = 0;
            caught = NONE;
            caughtAt = itsCaughtAt;
            latest = NONE;
            atSeam = false;
        }

        Text written() {
            out.length = Math.min(length, MOST_SIGNS);
            return out;
        }

        /** Here a blank is put, where else two rows of letters, of digits would become one. */
        void putSeam() {
            atSeam = true;
        }

        /** The WAY that the fitting found last tells what is HELD. */
        void writeEdit(Source source, Rule rule, int node, Fitting fitting) {
            for (int i = rule.patternEnd; i < rule.items; i++) {
                findHeld(source, rule, i, fitting);
            }
            for (int i = 0; i < source.comments; i++) {
                int begin = source.commentAt[i];
                int behind = begin + source.commentLength[i];
                boolean inPlace = begin >= source.begin[node] && behind <= source.behind[node];
                if (inPlace && !isHeld(rule, begin, behind)) {
                    putRow(source.text, begin, behind);
                    putSign(BLANK);
                    carried++;
                }
            }
            writePut(source, rule);
        }

        private void findHeld(Source source, Rule rule, int item, Fitting fitting) {
            heldFrom[item] = 0;
            heldBehind[item] = 0;
            int first = rule.hole[item] == NONE ? NONE : rule.standing(0, rule.hole[item]);
            if (first != NONE && fitting.rowLength[first] > 0) {
                heldFrom[item] = source.begin[fitting.at[first]];
                heldBehind[item] = source.behind[fitting.last[first]];
            }
        }

        private boolean isHeld(Rule rule, int begin, int behind) {
            for (int i = rule.patternEnd; i < rule.items; i++) {
                if (heldFrom[i] <= begin && behind <= heldBehind[i]) {
                    return true;
                }
            }
            return false;
        }

        private void writePut(Source source, Rule rule) {
            for (int i = rule.patternEnd; i < rule.items; i++) {
                boolean isHole = rule.hole[i] != NONE;
                boolean isEmpty = isHole && heldFrom[i] == heldBehind[i];
                if (rule.parent[i] != NONE && !isEmpty) {
                    putSign(BLANK);
                }
                if (isHole) {
                    putRow(source.text, heldFrom[i], heldBehind[i]);
                } else {
                    if (rule.op[i] == Rule.TERM) {
                        putSign('(');
                    }
                    putRow(rule.text, rule.wordAt[i], rule.wordAt[i] + rule.wordLength[i]);
                }
                closeTerms(rule, i);
            }
        }

        /** Puts the ) of all that ends with this item. */
        private void closeTerms(Rule rule, int item) {
            int i = item;
            for (int tries = 0; tries < MOST_ITEMS && i != NONE; tries++) {
                if (i + rule.span[i] != item + 1) {
                    return;
                }
                if (rule.op[i] == Rule.TERM) {
                    putSign(')');
                }
                i = rule.parent[i];
            }
        }

        void putRow(Text text, int from, int behind) {
            for (int i = from; i < behind; i++) {
                putSign(text.at(i));
            }
        }

        private void putSign(int sign) {
            if (atSeam && (isLetter(latest) && isLetter(sign) || isDigit(latest) && isDigit(sign))) {
                append(BLANK);
            }
            atSeam = false;
            append(sign);
        }

        private void append(int sign) {
            if (length < MOST_SIGNS) {
                out.signs[length] = sign;
            }
            if (length == caughtAt) {
                caught = sign;
            }
            latest = sign;
            length++;
        }
    }

    /** The latest SOURCES that can be had back, in a ring. */
    private static final class Past {
        int held;
        private int oldest;
        private final Text[] texts = new Text[MOST_PAST];

        Past() {
            for (int i = 0; i < MOST_PAST; i++) {
                texts[i] = new Text();
            }
        }

        void add(Text text) {
            if (held == MOST_PAST) {
                oldest = (oldest + 1) % MOST_PAST;
                held--;
            }
            texts[(oldest + held) % MOST_PAST].take(text);
            held++;
        }

        /** The latest, which can't be had back again then; or null. */
        Text takeLatest() {
            if (held == 0) {
                return null;
            }
            held--;
            return texts[(oldest + held) % MOST_PAST];
        }

        void forget() {
            held = 0;
        }
    }

    /** What keep() holds. */
    private static final class Kept {
        boolean filled;
        final Text text = new Text();
        final Rule[] rules = new Rule[MOST_RULES];
    }
}
