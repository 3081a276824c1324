import java.util.ArrayList;
import java.util.HashMap;
import java.util.List;
import java.util.Map;
import java.util.NoSuchElementException;
import java.util.Random;

/**
 * Long random runs of calls, each answer held against a model that follows the document's definitions by trying
 * everything: every clique for a line, every set of points, every colouring. It shares no code with the class.
 */
public final class MeetingNetsAgainstModel {
    private static final int THROWS = Integer.MIN_VALUE + 7;
    private static int wrong;
    private static long asked;

    public static void main(String[] args) {
        int rounds = args.length > 0 ? Integer.parseInt(args[0]) : 260;
        long from = args.length > 1 ? Long.parseLong(args[1]) : 1;
        for (int k = 0; k < rounds && wrong < 20; k++) {
            new Run(from + k).go();
        }
        allSmallNets();
        System.out.println(asked + " answers held against the model, " + wrong + " wrong");
        if (wrong != 0) {
            System.exit(1);
        }
    }

    private static void due(String call, int got, int want) {
        asked++;
        if (got != want) {
            wrong++;
            System.out.println(call + " answered " + got + ", due is " + want);
        }
    }

    /** Every net of at most five points, and, by mays(), every one of six. */
    private static void allSmallNets() {
        for (int n = 0; n <= 5; n++) {
            int pairs = n * (n - 1) / 2;
            for (int bits = 0; bits < 1 << pairs && wrong < 20; bits++) {
                MeetingNets x = new MeetingNets();
                Graph g = new Graph(0);
                int left = bits;
                for (int p = 0; p < n; p++) {
                    int set = left & (1 << p) - 1;
                    left >>>= p;
                    due("come", x.come(set), p);
                    g = g.with(set);
                }
                String where = "net of " + n + " points " + bits + ": ";
                askAll(where, x, g);
            }
        }
    }

    static void askAll(String where, MeetingNets x, Graph g) {
        askCounts(where, x, g);
        askCovers(where, x, g);
        askPieces(where, x, g);
        askChoices(where, x, g);
    }

    static void askCounts(String where, MeetingNets x, Graph g) {
        due(where + "now(0)", x.now(0), g.n);
        due(where + "now(1)", x.now(1), g.lines().size());
        due(where + "now(2)", x.now(2), g.parts());
        due(where + "now(3)", x.now(3), g.mostLines());
        int all = 0;
        int odd = 0;
        for (int a = 0; a < g.n; a++) {
            for (int b = a + 1; b < g.n; b++) {
                for (int c = b + 1; c < g.n; c++) {
                    int o = g.odd(a, b, c);
                    all += o >= 0 ? 1 : 0;
                    odd += o == 1 ? 1 : 0;
                }
            }
        }
        due(where + "now(4)", x.now(4), all);
        due(where + "now(5)", x.now(5), odd);
        due(where + "now(6)", x.now(6), g.claws().size());
        due(where + "claw()", x.claw(), g.claws().stream().mapToInt(s -> s).min().orElse(0));
    }

    static void askCovers(String where, MeetingNets x, Graph g) {
        List<List<Integer>> covers = g.covers();
        due(where + "covers()", x.covers(), Math.min(999, covers.size()));
        List<Integer> first = covers.isEmpty() ? null : covers.get(0);
        due(where + "cliques()", x.cliques(), first == null ? -1 : first.size());
        Graph root = first == null ? null : g.root(first);
        due(where + "root(0)", x.root(0), root == null ? -1 : root.n);
        due(where + "root(1)", x.root(1), root == null ? -1 : root.mostLines());
        due(where + "root(2)", x.root(2), root == null ? -1 : root.parts());
        for (int k = -1; k <= (first == null ? 0 : first.size()); k++) {
            due(where + "clique(" + k + ")", x.clique(k),
                first == null || k < 0 || k >= first.size() ? -1 : first.get(k));
        }
        for (int p = 0; p < g.n; p++) {
            due(where + "rootLine(" + p + ", 0)", rootLine(x, p, 0), root == null ? THROWS : root.low[p]);
            due(where + "rootLine(" + p + ", 1)", rootLine(x, p, 1), root == null ? THROWS : root.high[p]);
        }
    }

    static void askPieces(String where, MeetingNets x, Graph g) {
        List<Integer> pieces = g.pieces();
        int least = 0;
        for (int s : pieces) {
            if (least == 0 || Integer.bitCount(s) < Integer.bitCount(least)
                || Integer.bitCount(s) == Integer.bitCount(least) && s < least) {
                least = s;
            }
        }
        due(where + "piece()", x.piece(), least);
        due(where + "pieces()", x.pieces(), pieces.size());
        for (int p = 0; p < g.n; p++) {
            int q = p;
            due(where + "blamed(" + p + ")", x.blamed(p), (int) pieces.stream().filter(s -> (s >> q & 1) != 0).count());
        }
        List<int[]> mendings = g.mendings();
        due(where + "mending(0)", x.mending(0), mendings.size());
        due(where + "mending(1)", x.mending(1), mendings.isEmpty() ? -1 : mendings.get(0)[0]);
        due(where + "mending(2)", x.mending(2), mendings.isEmpty() ? -1 : mendings.get(0)[1]);
        due(where + "mays()", x.mays(), g.mays());
        due(where + "depth()", x.depth(), g.depth());
    }

    static void askChoices(String where, MeetingNets x, Graph g) {
        int[] colours = g.colouring();
        int most = 0;
        for (int c : colours) {
            most = Math.max(most, c + 1);
        }
        due(where + "colours()", x.colours(), most);
        for (int p = 0; p < g.n; p++) {
            due(where + "colourAt(" + p + ")", x.colourAt(p), colours[p]);
        }
        int apart = g.choice(false);
        due(where + "apart(0)", x.apart(0), Integer.bitCount(apart));
        due(where + "apart(1)", x.apart(1), apart);
        int clump = g.choice(true);
        due(where + "clump(0)", x.clump(0), Integer.bitCount(clump));
        due(where + "clump(1)", x.clump(1), clump);
    }

    static int rootLine(MeetingNets x, int p, int what) {
        try {
            return x.rootLine(p, what);
        } catch (NoSuchElementException e) {
            return THROWS;
        }
    }

    static int near(MeetingNets x, int p) {
        try {
            return x.near(p);
        } catch (NoSuchElementException e) {
            return THROWS;
        }
    }

    static int line(MeetingNets x, int l, int what) {
        try {
            return x.line(l, what);
        } catch (NoSuchElementException e) {
            return THROWS;
        }
    }

    /** One object and its model, through at most 512 calls chosen by a seed. */
    private static final class Run {
        final Random random;
        final long seed;
        final MeetingNets x = new MeetingNets();
        Graph g = new Graph(0);
        final List<Graph> acts = new ArrayList<>();
        final Graph[] places = new Graph[2];
        final List<Integer> tape = new ArrayList<>();
        int fault;
        int calls;
        String where = "";

        Run(long seed) {
            this.seed = seed;
            random = new Random(seed);
        }

        void go() {
            int bias = random.nextInt(4);
            while (calls < 430 && wrong < 20) {
                where = "seed " + seed + " call " + calls + ": ";
                int kind = random.nextInt(100);
                if (kind < 6) {
                    text();
                } else if (kind < 60) {
                    act(bias);
                } else if (kind < 64 && g.n <= 14) {
                    calls += 75;
                    if (random.nextInt(3) == 0) {
                        askAll(where, x, g);
                    } else {
                        askCounts(where, x, g);
                        askCovers(where, x, g);
                    }
                } else {
                    ask();
                }
                calls++;
            }
        }

        int some() {
            return random.nextInt(8) == 0 ? random.nextInt(20) - 3 : g.n == 0 ? 0 : random.nextInt(g.n);
        }

        int someSet(int bias) {
            if (random.nextInt(25) == 0) {
                return random.nextInt();
            }
            int set = 0;
            for (int p = 0; p < g.n; p++) {
                if (random.nextInt(4) <= bias - 1) {
                    set |= 1 << p;
                }
            }
            if (random.nextInt(3) == 0 && !g.lines().isEmpty()) {
                int[] l = g.lines().get(random.nextInt(g.lines().size()));
                set = 1 << l[0] | 1 << l[1];
            }
            return set;
        }

        void keep() {
            acts.add(g);
            if (acts.size() > 8) {
                acts.remove(0);
            }
        }

        void become(Graph next) {
            keep();
            g = next;
        }

        void act(int bias) {
            switch (random.nextInt(14)) {
                case 0: case 1: flip(true); break;
                case 2: flip(false); break;
                case 3: case 4: case 5: case 6: come(someSet(bias)); break;
                case 7: leave(some()); break;
                case 8: meet(); break;
                case 9: back(); break;
                case 10: drawn(random.nextInt(10) == 0 ? random.nextInt(70) - 4 : random.nextInt(9), random.nextInt()); break;
                case 11: takeBack(); break;
                case 12: image(random.nextInt(4) - 1); break;
                default: restore(random.nextInt(4) - 1);
            }
        }

        void flip(boolean tie) {
            int a = some();
            int b = some();
            int want;
            if (a < 0 || b < 0 || a >= g.n || b >= g.n || a == b) {
                want = -1;
            } else if (g.t[a][b] == tie) {
                want = 1;
            } else {
                want = 0;
                become(g.flipped(a, b));
            }
            due(where + (tie ? "tie" : "part") + "(" + a + ", " + b + ")", tie ? x.tie(a, b) : x.part(a, b), want);
        }

        void come(int set) {
            int want = -1;
            if (g.n < 14 && set >= 0 && set < 1 << g.n) {
                want = g.n;
                become(g.with(set));
            }
            due(where + "come(" + set + ")", x.come(set), want);
        }

        void leave(int p) {
            int want = -1;
            if (p >= 0 && p < g.n) {
                become(g.without(p));
                want = g.n;
            }
            due(where + "go(" + p + ")", x.go(p), want);
        }

        void meet() {
            int want = -1;
            if (g.lines().size() <= 14) {
                become(g.meeting());
                want = g.n;
            }
            due(where + "meet()", x.meet(), want);
        }

        void back() {
            int want = -1;
            Graph back = g.back();
            if (back != null) {
                become(back);
                want = g.n;
            }
            due(where + "back()", x.back(), want);
        }

        void drawn(int n, int s) {
            int want = -1;
            if (n >= 1 && n <= 60) {
                Graph before = g;
                int[] state = {s};
                want = 0;
                for (int k = 0; k < n; k++) {
                    Graph next = deed(g, state);
                    if (next != null) {
                        want++;
                        g = next;
                    }
                }
                if (want > 0) {
                    Graph now = g;
                    g = before;
                    become(now);
                }
            }
            due(where + "drawn(" + n + ", " + s + ")", x.drawn(n, s), want);
        }

        static int draw(int n, int[] s) {
            s[0] = (int) ((long) s[0] * 1103515245L + 12345L);
            return (int) ((s[0] & 0xFFFFFFFFL) / 256 % n);
        }

        static Graph deed(Graph g, int[] s) {
            int kind = draw(6, s);
            if (kind == 0) {
                return g.n == 0 ? null : g.without(draw(g.n, s));
            }
            if (kind == 1) {
                if (g.n == 14) {
                    return null;
                }
                int set = 0;
                for (int p = 0; p < g.n; p++) {
                    set += draw(3, s) == 0 ? 1 << p : 0;
                }
                return g.with(set);
            }
            if (g.n < 2) {
                return null;
            }
            int a = draw(g.n, s);
            int b = draw(g.n - 1, s);
            return g.flipped(a, b < a ? b : b + 1);
        }

        void takeBack() {
            int want = -1;
            if (!acts.isEmpty()) {
                g = acts.remove(acts.size() - 1);
                want = acts.size();
            }
            due(where + "undo()", x.undo(), want);
        }

        void image(int k) {
            boolean want = k == 0 || k == 1;
            if (want) {
                places[k] = g;
            }
            due(where + "image(" + k + ")", x.image(k) ? 1 : 0, want ? 1 : 0);
        }

        void restore(int k) {
            boolean want = (k == 0 || k == 1) && places[k] != null;
            if (want) {
                g = places[k];
                acts.clear();
            }
            due(where + "restore(" + k + ")", x.restore(k) ? 1 : 0, want ? 1 : 0);
        }

        // ---- texts

        void text() {
            if (random.nextInt(3) == 0) {
                Texts.told(random, this);
                return;
            }
            StringBuilder b = new StringBuilder();
            List<String> names = new ArrayList<>();
            int n = random.nextInt(15);
            for (int k = 0; k < n; k++) {
                names.add(Texts.name(random));
            }
            int chance = random.nextInt(3) == 0 ? 25 : 0;
            for (String name : names) {
                Texts.row(b, random, "point", name, null, chance);
            }
            int lines = n < 2 ? 0 : random.nextInt(30);
            for (int k = 0; k < lines; k++) {
                int i = random.nextInt(n);
                int j = random.nextInt(n);
                if (i != j || random.nextInt(30) == 0) {
                    Texts.row(b, random, "line", names.get(i), names.get(j), chance);
                }
            }
            if (random.nextInt(6) == 0) {
                while (b.length() < 660 + random.nextInt(60)) {
                    b.append(' ');
                }
                b.append(random.nextInt(2) == 0 ? "point" + Texts.name(random) + ";" : "");
            }
            tell(b.toString());
        }

        void tell(String text) {
            String all = text.length() > 740 ? text.substring(0, 740) : text;
            feed(all);
            due(where + "now(8)", x.now(8), tape.size());
            calls++;
            TextModel m = new TextModel(tape);
            tape.clear();
            fault = m.kind;
            if (m.kind == 0) {
                g = m.g;
                acts.clear();
            }
            calls++;
            due(where + "net() of <" + all + ">", x.net(), m.kind == 0 ? m.rows : -1 - m.place);
            due(where + "fault()", x.fault(), fault);
            calls++;
        }

        void feed(String all) {
            int length = all.length();
            due(where + "end(0)", x.end(0) ? 1 : 0, 1);
            tape.clear();
            calls++;
            for (int i = 0; i < length || i % 20 != 0; i += 20) {
                int[] five = new int[5];
                for (int k = 0; k < 20; k++) {
                    int c = i + k < length ? all.charAt(i + k) : 'q';
                    five[k / 4] = five[k / 4] << 8 | c;
                }
                int want = -1;
                if (tape.size() + 20 <= 740) {
                    for (int k = 0; k < 20; k++) {
                        tape.add(five[k / 4] >> 24 - k % 4 * 8 & 255);
                    }
                    want = tape.size();
                }
                due(where + "feed", x.feed(five[0], five[1], five[2], five[3], five[4]), want);
                calls++;
            }
            boolean can = length <= tape.size();
            due(where + "end(" + length + ")", x.end(length) ? 1 : 0, can ? 1 : 0);
            calls++;
            while (can && tape.size() > length) {
                tape.remove(tape.size() - 1);
            }
        }

        // ---- single questions

        void ask() {
            int p = some();
            int q = some();
            switch (random.nextInt(17)) {
                case 0: {
                    due(where + "near(" + p + ")", near(x, p), p < 0 || p >= g.n ? THROWS : g.near(p));
                    break;
                }
                case 1: {
                    int l = random.nextInt(12) - 1;
                    int what = random.nextInt(4) - 1;
                    boolean bad = l < 0 || l >= g.lines().size() || what < 0 || what > 1;
                    due(where + "line(" + l + ", " + what + ")", line(x, l, what), bad ? THROWS : g.lines().get(l)[what]);
                    break;
                }
                case 2: due(where + "now(7)", x.now(7), acts.size()); break;
                case 3: due(where + "now(8)", x.now(8), tape.size()); break;
                case 4: {
                    int r = some();
                    due(where + "odd(" + p + ", " + q + ", " + r + ")", x.odd(p, q, r), g.odd(p, q, r));
                    break;
                }
                case 5: {
                    int set = someSet(2);
                    boolean bad = g.n == 14 || set < 0 || set >= 1 << g.n;
                    due(where + "may(" + set + ")", x.may(set), bad ? -1 : g.with(set).hasCover() ? 1 : 0);
                    break;
                }
                case 6: due(where + "mays()", x.mays(), g.n > 8 ? -1 : g.n > 6 ? x.mays() : g.mays()); break;
                case 7: due(where + "fault()", x.fault(), fault); break;
                case 8: due(where + "blamed", x.blamed(p), p < 0 || p >= g.n ? -1 : x.blamed(p)); break;
                case 9: due(where + "colourAt", x.colourAt(p), p < 0 || p >= g.n ? -1 : g.colouring()[p]); break;
                case 10: due(where + "depth()", x.depth(), g.depth()); break;
                case 11: {
                    int what = random.nextInt(6) - 2;
                    int s = g.choice(false);
                    due(where + "apart", x.apart(what), what == 0 ? Integer.bitCount(s) : what == 1 ? s : -1);
                    break;
                }
                case 12: {
                    int what = random.nextInt(6) - 2;
                    int s = g.choice(true);
                    due(where + "clump", x.clump(what), what == 0 ? Integer.bitCount(s) : what == 1 ? s : -1);
                    break;
                }
                case 13: {
                    int what = random.nextInt(3) + 9;
                    due(where + "now", x.now(random.nextInt(2) == 0 ? what : -what), -1);
                    break;
                }
                case 14: {
                    int[] wrongs = {-2, -1, 3, 4, 77};
                    due(where + "root", x.root(wrongs[random.nextInt(5)]), -1);
                    due(where + "mending", x.mending(wrongs[random.nextInt(5)]), -1);
                    due(where + "rootLine", rootLine(x, 0, random.nextInt(2) * 3 - 1), THROWS);
                    calls += 2;
                    break;
                }
                case 15: {
                    List<int[]> m = g.mendings();
                    due(where + "mending(0)", x.mending(0), m.size());
                    due(where + "mending(1)", x.mending(1), m.isEmpty() ? -1 : m.get(0)[0]);
                    due(where + "mending(2)", x.mending(2), m.isEmpty() ? -1 : m.get(0)[1]);
                    calls += 2;
                    break;
                }
                default: {
                    boolean bad = random.nextBoolean();
                    due(where + "end", x.end(bad ? tape.size() + 1 : -1) ? 1 : 0, 0);
                }
            }
        }
    }

    /** Texts that are nearly, or just, as the grammar asks. */
    private static final class Texts {
        static String name(Random random) {
            int length = random.nextInt(6) == 0 ? 7 : 1 + random.nextInt(2);
            StringBuilder b = new StringBuilder();
            for (int k = 0; k < length; k++) {
                b.append((char) ('a' + random.nextInt(random.nextInt(3) == 0 ? 26 : 9)));
            }
            return b.toString();
        }

        static void blanks(StringBuilder b, Random random, boolean need) {
            int many = random.nextInt(5) == 0 ? random.nextInt(3) : 0;
            if (need && many == 0) {
                many = 1;
            }
            for (int k = 0; k < many; k++) {
                b.append(random.nextInt(4) == 0 ? '\n' : ' ');
            }
        }

        static void row(StringBuilder b, Random random, String word, String one, String other, int chance) {
            blanks(b, random, false);
            piece(b, random, word, chance);
            blanks(b, random, true);
            piece(b, random, one, chance);
            if (other != null) {
                blanks(b, random, true);
                piece(b, random, other, chance);
            }
            blanks(b, random, false);
            piece(b, random, ";", chance);
        }

        static void piece(StringBuilder b, Random random, String word, int chance) {
            if (chance > 0 && random.nextInt(chance * 3) == 0) {
                String[] odd = {"", "point", "line", ";", "A", "1", "\t", "\u0000", "\u00e9", "abcdefgh", "zz", ";;", "lines", "poin"};
                b.append(odd[random.nextInt(odd.length)]);
            } else {
                b.append(word);
            }
        }

        /** Rows for 14 points and then some, near the end of what a text may have. */
        static void told(Random random, Run run) {
            StringBuilder b = new StringBuilder();
            int n = 12 + random.nextInt(4);
            for (int k = 0; k < n; k++) {
                b.append("point ").append((char) ('a' + k)).append(';');
            }
            while (b.length() < 680 + random.nextInt(40)) {
                int i = random.nextInt(Math.min(n, 14));
                int j = random.nextInt(Math.min(n, 14));
                if (i < j && b.indexOf("line " + (char) ('a' + i) + " " + (char) ('a' + j) + ";") < 0) {
                    b.append("line ").append((char) ('a' + i)).append(' ').append((char) ('a' + j)).append(';');
                }
                if (random.nextInt(40) == 0) {
                    for (int k = random.nextInt(500); k > 0; k--) {
                        b.append(' ');
                    }
                }
            }
            if (random.nextInt(2) == 0) {
                b.append(random.nextInt(2) == 0 ? "point abcdefghi" : "zzzzzzz");
            }
            run.tell(b.toString());
        }
    }

    /** A text cut into tokens first, then read. */
    private static final class TextModel {
        final List<Integer> starts = new ArrayList<>();
        final List<String> tokens = new ArrayList<>();
        Graph g = new Graph(0);
        int kind;
        int place;
        int rows;

        TextModel(List<Integer> tape) {
            int i = 0;
            int size = tape.size();
            while (i < size && i < 700) {
                int c = tape.get(i);
                if (c == 32 || c == 10) {
                    i++;
                    continue;
                }
                int j = i + 1;
                String token = c == ';' ? ";" : "?";
                if (c >= 97 && c <= 122) {
                    while (j < size && tape.get(j) >= 97 && tape.get(j) <= 122) {
                        j++;
                    }
                    StringBuilder b = new StringBuilder();
                    for (int k = i; k < j; k++) {
                        b.append((char) (int) tape.get(k));
                    }
                    token = b.length() > 7 ? "?" : b.toString();
                }
                starts.add(i);
                tokens.add(token);
                i = j;
            }
            read(Math.min(size, 700), size > 700);
        }

        void read(int end, boolean more) {
            List<String> names = new ArrayList<>();
            int k = 0;
            while (k < tokens.size()) {
                String row = tokens.get(k);
                if (row.equals("point")) {
                    if (names.size() == 14) {
                        fail(3, k, end);
                        return;
                    }
                    k++;
                    if (!isName(k)) {
                        fail(1, k, end);
                        return;
                    }
                    if (names.contains(tokens.get(k))) {
                        fail(2, k, end);
                        return;
                    }
                    names.add(tokens.get(k));
                    g = g.with(0);
                } else if (row.equals("line")) {
                    int[] ends = new int[2];
                    for (int e = 0; e < 2; e++) {
                        k++;
                        if (!isName(k)) {
                            fail(1, k, end);
                            return;
                        }
                        ends[e] = names.indexOf(tokens.get(k));
                        if (ends[e] < 0 || e == 1 && (ends[0] == ends[1] || g.t[ends[0]][ends[1]])) {
                            fail(2, k, end);
                            return;
                        }
                    }
                    g = g.flipped(ends[0], ends[1]);
                } else {
                    fail(1, k, end);
                    return;
                }
                k++;
                if (k >= tokens.size() || !tokens.get(k).equals(";")) {
                    fail(1, k, end);
                    return;
                }
                k++;
                rows++;
            }
            if (more) {
                fail(1, k, end);
            }
        }

        boolean isName(int k) {
            return k < tokens.size() && !tokens.get(k).equals("?") && !tokens.get(k).equals(";")
                && !tokens.get(k).equals("point") && !tokens.get(k).equals("line");
        }

        void fail(int what, int k, int end) {
            kind = what;
            place = k < starts.size() ? starts.get(k) : end;
        }
    }

    /** A network that never changes, with all that the document tells of one, by trying everything. */
    static final class Graph {
        private static final Map<String, Graph> KNOWN = new HashMap<>();
        final int n;
        final boolean[][] t;
        int[] low;
        int[] high;
        private List<int[]> lines;
        private List<List<Integer>> covers;
        private Boolean coverable;
        private List<Integer> pieces;
        private List<int[]> mendings;
        private int[] colouring;

        Graph(int n) {
            this.n = n;
            t = new boolean[n][n];
        }

        /** The same net asked again needn't be searched again. */
        Graph known() {
            if (KNOWN.size() > 200000) {
                KNOWN.clear();
            }
            StringBuilder b = new StringBuilder();
            b.append((char) n);
            for (int p = 0; p < n; p++) {
                b.append((char) near(p));
            }
            return KNOWN.computeIfAbsent(b.toString(), k -> this);
        }

        int near(int p) {
            int set = 0;
            for (int q = 0; q < n; q++) {
                set |= t[p][q] ? 1 << q : 0;
            }
            return set;
        }

        Graph part(int set) {
            List<Integer> ps = new ArrayList<>();
            for (int p = 0; p < n; p++) {
                if ((set >> p & 1) != 0) {
                    ps.add(p);
                }
            }
            Graph g = new Graph(ps.size());
            for (int i = 0; i < g.n; i++) {
                for (int j = 0; j < g.n; j++) {
                    g.t[i][j] = t[ps.get(i)][ps.get(j)];
                }
            }
            return g.known();
        }

        Graph without(int p) {
            return part((1 << n) - 1 - (1 << p));
        }

        Graph with(int set) {
            Graph g = new Graph(n + 1);
            for (int i = 0; i < n; i++) {
                for (int j = 0; j < n; j++) {
                    g.t[i][j] = t[i][j];
                }
                g.t[i][n] = g.t[n][i] = (set >> i & 1) != 0;
            }
            return g.known();
        }

        Graph flipped(int a, int b) {
            Graph g = new Graph(n);
            for (int i = 0; i < n; i++) {
                g.t[i] = t[i].clone();
            }
            g.t[a][b] = g.t[b][a] = !t[a][b];
            return g.known();
        }

        List<int[]> lines() {
            if (lines == null) {
                lines = new ArrayList<>();
                for (int a = 0; a < n; a++) {
                    for (int b = a + 1; b < n; b++) {
                        if (t[a][b]) {
                            lines.add(new int[] {a, b});
                        }
                    }
                }
            }
            return lines;
        }

        Graph meeting() {
            List<int[]> l = lines();
            Graph g = new Graph(l.size());
            for (int i = 0; i < g.n; i++) {
                for (int j = 0; j < g.n; j++) {
                    int[] a = l.get(i);
                    int[] b = l.get(j);
                    g.t[i][j] = i != j && (a[0] == b[0] || a[0] == b[1] || a[1] == b[0] || a[1] == b[1]);
                }
            }
            return g.known();
        }

        int parts() {
            int[] at = new int[n];
            for (int p = 0; p < n; p++) {
                at[p] = p;
            }
            for (int[] l : lines()) {
                int from = at[l[0]];
                for (int p = 0; p < n; p++) {
                    if (at[p] == from) {
                        at[p] = at[l[1]];
                    }
                }
            }
            return (int) java.util.Arrays.stream(at).distinct().count();
        }

        int mostLines() {
            int most = 0;
            for (int p = 0; p < n; p++) {
                most = Math.max(most, Integer.bitCount(near(p)));
            }
            return most;
        }

        int odd(int a, int b, int c) {
            if (a < 0 || b < 0 || c < 0 || a >= n || b >= n || c >= n || !t[a][b] || !t[a][c] || !t[b][c]) {
                return -1;
            }
            for (int p = 0; p < n; p++) {
                if (p != a && p != b && p != c) {
                    int ties = (t[p][a] ? 1 : 0) + (t[p][b] ? 1 : 0) + (t[p][c] ? 1 : 0);
                    if (ties % 2 == 1) {
                        return 1;
                    }
                }
            }
            return 0;
        }

        List<Integer> claws() {
            List<Integer> claws = new ArrayList<>();
            for (int set = 0; set < 1 << n; set++) {
                if (Integer.bitCount(set) != 4) {
                    continue;
                }
                for (int c = 0; c < n; c++) {
                    if ((set >> c & 1) != 0 && isClaw(c, set & ~(1 << c))) {
                        claws.add(set);
                    }
                }
            }
            return claws;
        }

        private boolean isClaw(int c, int ends) {
            for (int p = 0; p < n; p++) {
                if ((ends >> p & 1) != 0 && (!t[c][p] || (near(p) & ends) != 0)) {
                    return false;
                }
            }
            return true;
        }

        boolean hasCover() {
            if (coverable == null) {
                List<List<Integer>> out = new ArrayList<>();
                search(new boolean[n][n], new int[n], new ArrayList<>(), out, 1);
                coverable = !out.isEmpty();
            }
            return coverable;
        }

        List<List<Integer>> covers() {
            if (covers == null) {
                covers = new ArrayList<>();
                search(new boolean[n][n], new int[n], new ArrayList<>(), covers, 1000);
                covers.sort((a, b) -> {
                    for (int k = 0; k < Math.min(a.size(), b.size()); k++) {
                        if (!a.get(k).equals(b.get(k))) {
                            return Integer.compare(a.get(k), b.get(k));
                        }
                    }
                    return Integer.compare(a.size(), b.size());
                });
                coverable = !covers.isEmpty();
            }
            return covers;
        }

        private void search(boolean[][] done, int[] in, List<Integer> row, List<List<Integer>> out, int enough) {
            int[] next = null;
            for (int[] l : lines()) {
                if (!done[l[0]][l[1]]) {
                    next = l;
                    break;
                }
            }
            if (next == null) {
                out.add(new ArrayList<>(row));
                return;
            }
            int both = near(next[0]) & near(next[1]);
            for (int some = both; out.size() < enough; some = some - 1 & both) {
                int set = some | 1 << next[0] | 1 << next[1];
                if (canTake(set, done, in)) {
                    take(set, done, in, true);
                    row.add(set);
                    search(done, in, row, out, enough);
                    row.remove(row.size() - 1);
                    take(set, done, in, false);
                }
                if (some == 0) {
                    break;
                }
            }
        }

        private boolean canTake(int set, boolean[][] done, int[] in) {
            for (int a = 0; a < n; a++) {
                if ((set >> a & 1) == 0) {
                    continue;
                }
                if (in[a] == 2) {
                    return false;
                }
                for (int b = a + 1; b < n; b++) {
                    if ((set >> b & 1) != 0 && (!t[a][b] || done[a][b])) {
                        return false;
                    }
                }
            }
            return true;
        }

        private void take(int set, boolean[][] done, int[] in, boolean on) {
            for (int a = 0; a < n; a++) {
                if ((set >> a & 1) != 0) {
                    in[a] += on ? 1 : -1;
                    for (int b = a + 1; b < n; b++) {
                        if ((set >> b & 1) != 0) {
                            done[a][b] = on;
                        }
                    }
                }
            }
        }

        Graph root(List<Integer> cover) {
            int points = cover.size();
            int[] l = new int[n];
            int[] h = new int[n];
            for (int p = 0; p < n; p++) {
                List<Integer> in = new ArrayList<>();
                for (int k = 0; k < cover.size(); k++) {
                    if ((cover.get(k) >> p & 1) != 0) {
                        in.add(k);
                    }
                }
                while (in.size() < 2) {
                    in.add(points++);
                }
                l[p] = in.get(0);
                h[p] = in.get(1);
            }
            Graph g = new Graph(points);
            for (int p = 0; p < n; p++) {
                if (l[p] >= h[p] || g.t[l[p]][h[p]]) {
                    throw new IllegalStateException("a root's line twice");
                }
                g.t[l[p]][h[p]] = g.t[h[p]][l[p]] = true;
            }
            for (int p = 0; p < n; p++) {
                for (int q = 0; q < n; q++) {
                    boolean meets = p != q && (l[p] == l[q] || l[p] == h[q] || h[p] == l[q] || h[p] == h[q]);
                    if (meets != t[p][q]) {
                        throw new IllegalStateException("a root's lines don't meet as the points are tied");
                    }
                }
            }
            g.low = l;
            g.high = h;
            return g;
        }

        Graph back() {
            if (covers().isEmpty()) {
                return null;
            }
            Graph root = root(covers().get(0));
            return root.n > 14 ? null : root.known();
        }

        int depth() {
            Graph g = this;
            for (int k = 0; k < 20; k++) {
                g = g.back();
                if (g == null) {
                    return k;
                }
            }
            return 20;
        }

        List<Integer> pieces() {
            if (pieces != null) {
                return pieces;
            }
            pieces = new ArrayList<>();
            boolean[] bad = new boolean[1 << n];
            for (int set = 0; set < 1 << n; set++) {
                boolean within = false;
                for (int p = 0; p < n; p++) {
                    within |= (set >> p & 1) != 0 && bad[set & ~(1 << p)];
                }
                // a cover of a net, cut down to some of its points, covers these
                bad[set] = within || !part(set).hasCover();
                if (bad[set] && !within) {
                    pieces.add(set);
                }
            }
            return pieces;
        }

        List<int[]> mendings() {
            if (mendings == null) {
                mendings = new ArrayList<>();
                for (int a = 0; a < n && !hasCover(); a++) {
                    for (int b = a + 1; b < n; b++) {
                        if (flipped(a, b).hasCover()) {
                            mendings.add(new int[] {a, b});
                        }
                    }
                }
            }
            return mendings;
        }

        int mays() {
            if (n > 8) {
                return -1;
            }
            int many = 0;
            for (int set = 0; set < 1 << n; set++) {
                many += with(set).hasCover() ? 1 : 0;
            }
            return many;
        }

        int[] colouring() {
            if (colouring == null) {
                int[] c = new int[n];
                if (!colour(c, 0, fewestColours())) {
                    throw new IllegalStateException("no colouring");
                }
                colouring = c;
            }
            return colouring;
        }

        private int fewestColours() {
            int[] fewest = new int[1 << n];
            for (int set = 1; set < 1 << n; set++) {
                fewest[set] = n;
                int first = set & -set;
                for (int like = set; like != 0; like = like - 1 & set) {
                    if ((like & first) != 0 && 1 + fewest[set & ~like] < fewest[set] && isApart(like)) {
                        fewest[set] = 1 + fewest[set & ~like];
                    }
                }
            }
            return fewest[(1 << n) - 1];
        }

        private boolean isApart(int set) {
            for (int p = 0; p < n; p++) {
                if ((set >> p & 1) != 0 && (near(p) & set) != 0) {
                    return false;
                }
            }
            return true;
        }

        /** Larger nets skip colours that are new under another name, or this would take too long. */
        private boolean colour(int[] c, int p, int most) {
            if (p == n) {
                return true;
            }
            int used = 0;
            for (int q = 0; q < p; q++) {
                used = Math.max(used, c[q] + 1);
            }
            for (int k = 0; k < most && (n < 8 || k <= used); k++) {
                boolean free = true;
                for (int q = 0; q < p; q++) {
                    free &= !t[p][q] || c[q] != k;
                }
                c[p] = k;
                if (free && colour(c, p + 1, most)) {
                    return true;
                }
            }
            return false;
        }

        int choice(boolean tied) {
            int best = 0;
            for (int set = 1; set < 1 << n; set++) {
                if (Integer.bitCount(set) <= Integer.bitCount(best)) {
                    continue;
                }
                boolean fits = true;
                for (int p = 0; p < n && fits; p++) {
                    if ((set >> p & 1) != 0) {
                        int others = set & ~(1 << p);
                        fits = tied ? (near(p) & others) == others : (near(p) & others) == 0;
                    }
                }
                best = fits ? set : best;
            }
            return best;
        }
    }
}
