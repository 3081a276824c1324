import java.util.NoSuchElementException;

/** Networks as the meeting patterns of other networks' lines; sets of points are told as bits of an int. */
public final class MeetingNets {
    public static final int NONE = -1;

    private static final int POINTS_MOST = 14;
    private static final int TAPE_MOST = 740;
    private static final int TEXT_MOST = 700;
    private static final int COVERS_MOST = 999;
    private static final int DEPTH_MOST = 20;
    private static final int ACTS_KEPT = 8;
    private static final int PLACES = 2;
    private static final int DEEDS_MOST = 60;
    private static final int MAYS_POINTS_MOST = 8;

    private final Net here = new Net();
    private final Net trial = new Net();
    private final Tape tape = new Tape();
    private final Reader reader = new Reader();
    private final Cover cover = new Cover();
    private final Proof proof = new Proof();
    private final Palette palette = new Palette();
    private final Choice choice = new Choice();
    private final Acts acts = new Acts();
    private final Shelf places = new Shelf();
    private int placesFilled;
    private int faultKind;
    private int seedNow;

    public MeetingNets() {
    }

    // ---- the tape and the text

    public int feed(int a, int b, int c, int d, int e) {
        if (tape.size() + 20 > TAPE_MOST) {
            return NONE;
        }
        tape.addFour(a);
        tape.addFour(b);
        tape.addFour(c);
        tape.addFour(d);
        tape.addFour(e);
        return tape.size();
    }

    public boolean end(int n) {
        return tape.cut(n);
    }

    public int net() {
        int answer = reader.read(tape);
        tape.cut(0);
        faultKind = reader.kind();
        if (faultKind == 0) {
            here.copy(reader.draft());
            acts.forget();
        }
        return answer;
    }

    public int fault() {
        return faultKind;
    }

    // ---- what the net is

    public int now(int what) {
        switch (what) {
            case 0: return here.size();
            case 1: return here.lines();
            case 2: return here.parts();
            case 3: return here.mostLines();
            case 4: return here.triangles(false);
            case 5: return here.triangles(true);
            case 6: return here.claws();
            case 7: return acts.size();
            case 8: return tape.size();
            default: return NONE;
        }
    }

    public int near(int p) throws NoSuchElementException {
        if (!here.holds(p)) {
            throw new NoSuchElementException();
        }
        return here.tiesOf(p);
    }

    public int line(int l, int what) throws NoSuchElementException {
        int ends = here.endsOf(l);
        if (ends == 0 || what < 0 || what > 1) {
            throw new NoSuchElementException();
        }
        return what == 0 ? lowest(ends) : lowest(ends & (ends - 1));
    }

    public int odd(int a, int b, int c) {
        if (!here.tied(a, b) || !here.tied(a, c) || !here.tied(b, c)) {
            return NONE;
        }
        return here.isOdd(a, b, c) ? 1 : 0;
    }

    public int claw() {
        return here.leastClaw();
    }

    // ---- acts

    public int tie(int a, int b) {
        return change(a, b, false);
    }

    public int part(int a, int b) {
        return change(a, b, true);
    }

    public int come(int set) {
        if (!here.mayAdd(set)) {
            return NONE;
        }
        acts.keep(here);
        here.add(set);
        return here.size() - 1;
    }

    public int go(int p) {
        if (!here.holds(p)) {
            return NONE;
        }
        acts.keep(here);
        here.drop(p);
        return here.size();
    }

    public int meet() {
        if (here.lines() > POINTS_MOST) {
            return NONE;
        }
        acts.keep(here);
        trial.becomeMeetingOf(here);
        here.copy(trial);
        return here.size();
    }

    public int back() {
        cover.look(here);
        if (!cover.leadsBack()) {
            return NONE;
        }
        acts.keep(here);
        cover.writeRoot(here);
        return here.size();
    }

    public int drawn(int n, int seed) {
        if (n < 1 || n > DEEDS_MOST) {
            return NONE;
        }
        seedNow = seed;
        trial.copy(here);
        int done = 0;
        for (int k = 0; k < n; k++) {
            if (didDeed()) {
                done++;
            }
        }
        if (done > 0) {
            acts.keep(trial);
        }
        return done;
    }

    public int undo() {
        return acts.takeBack(here);
    }

    public boolean image(int k) {
        if (k < 0 || k >= PLACES) {
            return false;
        }
        places.save(k, here);
        placesFilled |= 1 << k;
        return true;
    }

    public boolean restore(int k) {
        if (k < 0 || k >= PLACES || !has(placesFilled, k)) {
            return false;
        }
        places.load(k, here);
        acts.forget();
        return true;
    }

    // ---- covers, the root, the pieces

    public int covers() {
        cover.look(here);
        return cover.found();
    }

    public int cliques() {
        cover.look(here);
        return cover.found() == 0 ? NONE : cover.size();
    }

    public int clique(int k) {
        cover.look(here);
        if (cover.found() == 0 || k < 0 || k >= cover.size()) {
            return NONE;
        }
        return cover.cliqueAt(k);
    }

    public int root(int what) {
        cover.look(here);
        if (cover.found() == 0) {
            return NONE;
        }
        switch (what) {
            case 0: return cover.rootPoints();
            case 1: return cover.rootMostLines();
            // lines of the root meet just as the points are tied, and no point of it is without a line
            case 2: return here.parts();
            default: return NONE;
        }
    }

    public int rootLine(int p, int what) throws NoSuchElementException {
        cover.look(here);
        if (cover.found() == 0 || !here.holds(p) || what < 0 || what > 1) {
            throw new NoSuchElementException();
        }
        return cover.rootEnd(p, what);
    }

    public int piece() {
        proof.look(here);
        return proof.least();
    }

    public int pieces() {
        proof.look(here);
        return proof.many();
    }

    public int blamed(int p) {
        if (!here.holds(p)) {
            return NONE;
        }
        proof.look(here);
        return proof.blame(p);
    }

    public int depth() {
        trial.copy(here);
        int times = 0;
        for (int k = 0; k < DEPTH_MOST; k++) {
            cover.look(trial);
            if (!cover.leadsBack()) {
                break;
            }
            cover.writeRoot(trial);
            times++;
        }
        return times;
    }

    public int mending(int what) {
        if (what < 0 || what > 2) {
            return NONE;
        }
        int many = 0;
        int ends = 0;
        if (!here.hasCover(here.all())) {
            trial.copy(here);
            for (int a = 0; a < here.size(); a++) {
                for (int b = a + 1; b < here.size(); b++) {
                    if (mendsByFlipping(a, b)) {
                        ends = many == 0 ? 1 << a | 1 << b : ends;
                        many++;
                    }
                }
            }
        }
        if (what == 0) {
            return many;
        }
        if (many == 0) {
            return NONE;
        }
        return what == 1 ? lowest(ends) : lowest(ends & (ends - 1));
    }

    public int may(int set) {
        if (!here.mayAdd(set)) {
            return NONE;
        }
        return coversWith(set) ? 1 : 0;
    }

    public int mays() {
        if (here.size() > MAYS_POINTS_MOST) {
            return NONE;
        }
        int many = 0;
        for (int set = 0; set <= here.all(); set++) {
            if (coversWith(set)) {
                many++;
            }
        }
        return many;
    }

    // ---- colours, sets apart, clumps

    public int colours() {
        return palette.paint(here, choice);
    }

    public int colourAt(int p) {
        if (!here.holds(p)) {
            return NONE;
        }
        palette.paint(here, choice);
        return palette.colourOf(p);
    }

    public int apart(int what) {
        choice.takeUntied(here);
        return chosen(what);
    }

    public int clump(int what) {
        choice.takeTied(here);
        return chosen(what);
    }

    // ---- what the acts and the questions are made of

    private int change(int a, int b, boolean tiedBefore) {
        if (!here.holdsPair(a, b)) {
            return NONE;
        }
        if (here.tied(a, b) != tiedBefore) {
            return 1;
        }
        acts.keep(here);
        here.flip(a, b);
        return 0;
    }

    private int chosen(int what) {
        if (what == 0) {
            return choice.most();
        }
        return what == 1 ? choice.leastSet() : NONE;
    }

    private boolean mendsByFlipping(int a, int b) {
        trial.flip(a, b);
        boolean mends = trial.hasCover(trial.all());
        trial.flip(a, b);
        return mends;
    }

    private boolean coversWith(int set) {
        trial.copy(here);
        trial.add(set);
        return trial.hasCover(trial.all());
    }

    private int draw(int n) {
        seedNow = seedNow * 1103515245 + 12345;
        return n > 0 ? (seedNow >>> 8) % n : 0;
    }

    private boolean didDeed() {
        int kind = draw(6);
        if (kind == 0) {
            return didGo();
        }
        return kind == 1 ? didCome() : didFlip();
    }

    private boolean didGo() {
        if (here.size() == 0) {
            return false;
        }
        here.drop(draw(here.size()));
        return true;
    }

    private boolean didCome() {
        if (here.size() >= POINTS_MOST) {
            return false;
        }
        int set = 0;
        for (int p = 0; p < here.size(); p++) {
            if (draw(3) == 0) {
                set |= 1 << p;
            }
        }
        here.add(set);
        return true;
    }

    private boolean didFlip() {
        if (here.size() < 2) {
            return false;
        }
        int a = draw(here.size());
        int b = draw(here.size() - 1);
        if (b >= a) {
            b++;
        }
        here.flip(a, b);
        return true;
    }

    // ---- rows and sets

    private static int at(int[] row, int i) {
        return row != null && i >= 0 && i < row.length ? row[i] : 0;
    }

    private static void put(int[] row, int i, int value) {
        if (row != null && i >= 0 && i < row.length) {
            row[i] = value;
        }
    }

    private static boolean has(int set, int p) {
        return p >= 0 && p < POINTS_MOST && (set >>> p & 1) != 0;
    }

    /** The least point of a set that has one. */
    private static int lowest(int set) {
        return Integer.bitCount((set & -set) - 1);
    }

    /** All numbers of points behind p. */
    private static int behind(int p) {
        return -2 << p;
    }

    /** Whether each two points of a set are together in the rows. */
    private static boolean eachTwo(int[] rows, int set) {
        for (int p = 0; p < POINTS_MOST; p++) {
            if (has(set, p) && (set & ~at(rows, p)) != 1 << p) {
                return false;
            }
        }
        return true;
    }

    /** Points with their ties, and all that can be told of them without a search. */
    private static final class Net {
        private int points;
        private final int[] ties = new int[POINTS_MOST];

        int size() {
            return points;
        }

        int all() {
            return (1 << points) - 1;
        }

        boolean holds(int p) {
            return p >= 0 && p < points;
        }

        boolean holdsPair(int a, int b) {
            return holds(a) && holds(b) && a != b;
        }

        boolean mayAdd(int set) {
            return points < POINTS_MOST && (set & ~all()) == 0;
        }

        int tiesOf(int p) {
            return at(ties, p);
        }

        boolean tied(int a, int b) {
            return has(at(ties, a), b);
        }

        boolean equalTo(Net other) {
            if (points != other.points) {
                return false;
            }
            for (int p = 0; p < points; p++) {
                if (at(ties, p) != at(other.ties, p)) {
                    return false;
                }
            }
            return true;
        }

        void clear(int size) {
            points = size >= 0 && size <= POINTS_MOST ? size : 0;
            for (int p = 0; p < POINTS_MOST; p++) {
                put(ties, p, 0);
            }
        }

        void copy(Net other) {
            clear(other.points);
            for (int p = 0; p < points; p++) {
                put(ties, p, at(other.ties, p));
            }
        }

        void setTies(int p, int set) {
            put(ties, p, set);
        }

        void flip(int a, int b) {
            put(ties, a, at(ties, a) ^ 1 << b);
            put(ties, b, at(ties, b) ^ 1 << a);
        }

        void add(int set) {
            if (!mayAdd(set)) {
                return;
            }
            int p = points;
            points = p + 1;
            put(ties, p, set);
            for (int q = 0; q < p; q++) {
                if (has(set, q)) {
                    put(ties, q, at(ties, q) | 1 << p);
                }
            }
        }

        void drop(int p) {
            if (!holds(p)) {
                return;
            }
            for (int q = p; q + 1 < points; q++) {
                put(ties, q, at(ties, q + 1));
            }
            points--;
            put(ties, points, 0);
            int ahead = (1 << p) - 1;
            for (int q = 0; q < points; q++) {
                int set = at(ties, q);
                put(ties, q, set & ahead | set >>> 1 & ~ahead);
            }
        }

        int lines() {
            int twice = 0;
            for (int p = 0; p < points; p++) {
                twice += Integer.bitCount(at(ties, p));
            }
            return twice >> 1;
        }

        int mostLines() {
            int most = 0;
            for (int p = 0; p < points; p++) {
                most = Math.max(most, Integer.bitCount(at(ties, p)));
            }
            return most;
        }

        int parts() {
            int left = all();
            int many = 0;
            for (int p = 0; p < points; p++) {
                if (has(left, p)) {
                    left &= ~reach(p);
                    many++;
                }
            }
            return many;
        }

        private int reach(int p) {
            int reached = 1 << p;
            for (int round = 0; round < points; round++) {
                for (int q = 0; q < points; q++) {
                    if (has(reached, q)) {
                        reached |= at(ties, q);
                    }
                }
            }
            return reached;
        }

        /** The two points of a line as a set; 0: there is no such line. */
        int endsOf(int l) {
            int ahead = 0;
            for (int a = 0; a < points; a++) {
                for (int b = a + 1; b < points; b++) {
                    if (!tied(a, b)) {
                        continue;
                    }
                    if (ahead == l) {
                        return 1 << a | 1 << b;
                    }
                    ahead++;
                }
            }
            return 0;
        }

        void becomeMeetingOf(Net other) {
            clear(0);
            int many = Math.min(other.lines(), POINTS_MOST);
            for (int l = 0; l < many; l++) {
                int ends = other.endsOf(l);
                int set = 0;
                for (int m = 0; m < l; m++) {
                    if ((other.endsOf(m) & ends) != 0) {
                        set |= 1 << m;
                    }
                }
                add(set);
            }
        }

        /** A corner is tied to the two others, so it falls out of the sum by itself. */
        boolean isOdd(int a, int b, int c) {
            return (at(ties, a) ^ at(ties, b) ^ at(ties, c)) != 0;
        }

        int triangles(boolean oddAlone) {
            int many = 0;
            for (int a = 0; a < points; a++) {
                for (int b = a + 1; b < points; b++) {
                    if (tied(a, b)) {
                        int tips = oddAlone ? oddTips(a, b, all()) : at(ties, a) & at(ties, b);
                        many += Integer.bitCount(tips & behind(b));
                    }
                }
            }
            return many;
        }

        int claws() {
            int many = 0;
            for (int c = 0; c < points; c++) {
                int about = at(ties, c);
                for (int a = 0; a < points; a++) {
                    for (int b = a + 1; b < points; b++) {
                        many += Integer.bitCount(clawEnds(about, a, b));
                    }
                }
            }
            return many;
        }

        int leastClaw() {
            int least = 0;
            for (int c = 0; c < points; c++) {
                int about = at(ties, c);
                for (int a = 0; a < points; a++) {
                    for (int b = a + 1; b < points; b++) {
                        int ends = clawEnds(about, a, b);
                        int set = 1 << c | 1 << a | 1 << b | ends & -ends;
                        if (ends != 0 && (least == 0 || set < least)) {
                            least = set;
                        }
                    }
                }
            }
            return least;
        }

        /** All points behind a and b that are, with both of these, three of a set and not tied to one another. */
        private int clawEnds(int about, int a, int b) {
            if (!has(about, a) || !has(about, b) || tied(a, b)) {
                return 0;
            }
            return about & behind(b) & ~at(ties, a) & ~at(ties, b);
        }

        /**
         * Whether a set of points by itself has a cover. Van Rooij and Wilf: it has one just if it has no claw,
         * and of two odd triangles on one line the tips are always tied.
         */
        boolean hasCover(int set) {
            return !hasClaw(set) && !hasOddPair(set);
        }

        private boolean hasClaw(int set) {
            for (int c = 0; c < points; c++) {
                if (has(set, c) && hasThreeUntied(at(ties, c) & set)) {
                    return true;
                }
            }
            return false;
        }

        private boolean hasThreeUntied(int set) {
            if (Integer.bitCount(set) < 3) {
                return false;
            }
            for (int a = 0; a < points; a++) {
                if (!has(set, a)) {
                    continue;
                }
                int far = set & behind(a) & ~at(ties, a);
                for (int b = a + 1; b < points; b++) {
                    if (has(far, b) && (far & behind(b) & ~at(ties, b)) != 0) {
                        return true;
                    }
                }
            }
            return false;
        }

        private boolean hasOddPair(int set) {
            for (int a = 0; a < points; a++) {
                if (!has(set, a)) {
                    continue;
                }
                int others = at(ties, a) & set;
                for (int b = a + 1; b < points; b++) {
                    if (has(others, b) && !eachTwo(ties, oddTips(a, b, set))) {
                        return true;
                    }
                }
            }
            return false;
        }

        /** The third points of all triangles on a line that are odd among the points of a set. */
        private int oddTips(int a, int b, int set) {
            int tips = at(ties, a) & at(ties, b) & set;
            int sum = at(ties, a) ^ at(ties, b);
            int odd = 0;
            for (int t = 0; t < points; t++) {
                if (has(tips, t) && ((sum ^ at(ties, t)) & set) != 0) {
                    odd |= 1 << t;
                }
            }
            return odd;
        }
    }

    /** The bytes that came and were not read yet. */
    private static final class Tape {
        private int count;
        private final int[] bytes = new int[TAPE_MOST];

        int size() {
            return count;
        }

        int byteAt(int i) {
            return at(bytes, i);
        }

        void addFour(int number) {
            for (int shift = 24; shift >= 0; shift -= 8) {
                put(bytes, count, number >>> shift & 255);
                count++;
            }
        }

        boolean cut(int n) {
            if (n < 0 || n > count) {
                return false;
            }
            count = n;
            return true;
        }

        int pastBlanks(int from) {
            for (int i = from; i < count; i++) {
                if (byteAt(i) != 32 && byteAt(i) != 10) {
                    return i;
                }
            }
            return count;
        }

        boolean isLetter(int i) {
            return i < count && byteAt(i) >= 'a' && byteAt(i) <= 'z';
        }

        int pastLetters(int from) {
            for (int i = from; i < count; i++) {
                if (!isLetter(i)) {
                    return i;
                }
            }
            return count;
        }
    }

    /** Reads a text token by token into a draft, up to its first fault. */
    private static final class Reader {
        private static final int WORD_MOST = 7;
        private static final long POINT_WORD =
            (((('p' - 96) * 32L + ('o' - 96)) * 32 + ('i' - 96)) * 32 + ('n' - 96)) * 32 + ('t' - 96);
        private static final long LINE_WORD =
            ((('l' - 96) * 32L + ('i' - 96)) * 32 + ('n' - 96)) * 32 + ('e' - 96);

        private static final int NO_TOKEN = 0;
        private static final int SIGN = 1;
        private static final int WORD = 2;

        private static final int ROW = 0;
        private static final int NAME = 1;
        private static final int FIRST_POINT = 2;
        private static final int SECOND_POINT = 3;
        private static final int ROW_END = 4;

        private final Net draft = new Net();
        private final long[] names = new long[POINTS_MOST];
        private int kind;
        private int rows;
        private int awaited;
        private int firstPoint;
        private int token;
        private long word;
        private int after;

        Net draft() {
            return draft;
        }

        int kind() {
            return kind;
        }

        /** How many rows there are; -1 less the place of a fault. */
        int read(Tape tape) {
            draft.clear(0);
            kind = 0;
            rows = 0;
            awaited = ROW;
            after = 0;
            int count = tape.size();
            for (int step = 0; step <= TAPE_MOST; step++) {
                int place = tape.pastBlanks(after);
                if (count > TEXT_MOST && place >= TEXT_MOST) {
                    kind = 1;
                    return -1 - TEXT_MOST;
                }
                if (place >= count) {
                    kind = awaited == ROW ? 0 : 1;
                    return kind == 0 ? rows : -1 - count;
                }
                scan(tape, place);
                kind = take();
                if (kind != 0) {
                    return -1 - place;
                }
            }
            return rows;
        }

        private void scan(Tape tape, int place) {
            token = NO_TOKEN;
            word = 0;
            after = place + 1;
            if (tape.byteAt(place) == ';') {
                token = SIGN;
            } else if (tape.isLetter(place)) {
                after = tape.pastLetters(place);
                if (after - place <= WORD_MOST) {
                    token = WORD;
                    for (int i = place; i < after; i++) {
                        word = word * 32 + (tape.byteAt(i) - 96);
                    }
                }
            }
        }

        /** Takes the token that was scanned: 0, or the kind of its fault. */
        private int take() {
            if (awaited == ROW_END) {
                return takeSign();
            }
            if (token != WORD) {
                return 1;
            }
            if (awaited == ROW) {
                return takeRowWord();
            }
            if (word == POINT_WORD || word == LINE_WORD) {
                return 1;
            }
            return awaited == NAME ? takeName() : takePoint();
        }

        private int takeSign() {
            if (token != SIGN) {
                return 1;
            }
            rows++;
            awaited = ROW;
            return 0;
        }

        private int takeRowWord() {
            if (word == LINE_WORD) {
                awaited = FIRST_POINT;
                return 0;
            }
            if (word != POINT_WORD) {
                return 1;
            }
            awaited = NAME;
            return draft.size() < POINTS_MOST ? 0 : 3;
        }

        private int takeName() {
            if (toldAs() != NONE) {
                return 2;
            }
            int p = draft.size();
            if (p >= 0 && p < names.length) {
                names[p] = word;
            }
            draft.add(0);
            awaited = ROW_END;
            return 0;
        }

        private int takePoint() {
            int p = toldAs();
            if (p == NONE) {
                return 2;
            }
            if (awaited == FIRST_POINT) {
                firstPoint = p;
                awaited = SECOND_POINT;
                return 0;
            }
            if (p == firstPoint || draft.tied(firstPoint, p)) {
                return 2;
            }
            draft.flip(firstPoint, p);
            awaited = ROW_END;
            return 0;
        }

        private int toldAs() {
            for (int p = 0; p < draft.size() && p < names.length; p++) {
                if (names[p] == word) {
                    return p;
                }
            }
            return NONE;
        }
    }

    /** All covers of a net, counted, the first one kept; and the root that it rebuilds. */
    private static final class Cover {
        private final int[] open = new int[POINTS_MOST];
        private final int[] seats = new int[POINTS_MOST];
        private final int[] row = new int[POINTS_MOST];
        private final int[] first = new int[POINTS_MOST];
        private int points;
        private int size;
        private int found;

        int found() {
            return found;
        }

        int size() {
            return size;
        }

        int cliqueAt(int k) {
            return at(first, k);
        }

        void look(Net net) {
            points = net.size();
            size = 0;
            found = 0;
            for (int p = 0; p < points; p++) {
                put(open, p, net.tiesOf(p));
                put(seats, p, 0);
            }
            seek(this, 0);
        }

        /**
         * Two points that are tied to both ends of a line and stay out of its clique would be together in the
         * other clique of either end; so one at most stays out, and the highest that does makes the least number.
         */
        private static void seek(Cover own, int level) {
            if (level > POINTS_MOST || own.found >= COVERS_MOST) {
                return;
            }
            int a = own.firstOpen();
            if (a == NONE) {
                own.keepRow(level);
                return;
            }
            int about = at(own.open, a);
            int both = about & at(own.open, lowest(about));
            int whole = 1 << a | about & -about | both;
            for (int out = own.points - 1; out >= NONE; out--) {
                if (out != NONE && !has(both, out)) {
                    continue;
                }
                int clique = out == NONE ? whole : whole & ~(1 << out);
                if (own.fits(clique)) {
                    put(own.row, level, clique);
                    own.seat(clique, 1);
                    seek(own, level + 1);
                    own.seat(clique, -1);
                }
            }
        }

        private int firstOpen() {
            for (int p = 0; p < points; p++) {
                if (at(open, p) != 0) {
                    return p;
                }
            }
            return NONE;
        }

        private void keepRow(int level) {
            if (found == 0) {
                size = level;
                for (int k = 0; k < level; k++) {
                    put(first, k, at(row, k));
                }
            }
            found++;
        }

        /** Whether no line of a clique is in another one, and its points' other lines can be in one clique more. */
        private boolean fits(int clique) {
            for (int p = 0; p < points; p++) {
                if (!has(clique, p)) {
                    continue;
                }
                if (at(seats, p) > 1 || (clique & ~at(open, p)) != 1 << p) {
                    return false;
                }
                int left = at(open, p) & ~clique;
                if (left != 0 && (at(seats, p) == 1 || !eachTwo(open, left))) {
                    return false;
                }
            }
            return true;
        }

        /** Seats the points of a clique that fits (by 1), or takes them off again (by -1). */
        private void seat(int clique, int by) {
            for (int p = 0; p < points; p++) {
                if (has(clique, p)) {
                    put(seats, p, at(seats, p) + by);
                    put(open, p, at(open, p) ^ clique ^ 1 << p);
                }
            }
        }

        // ---- the root by the first cover

        boolean leadsBack() {
            return found > 0 && rootPoints() <= POINTS_MOST;
        }

        int rootPoints() {
            return numberAhead(points);
        }

        int rootMostLines() {
            int most = rootPoints() > size ? 1 : 0;
            for (int k = 0; k < size; k++) {
                most = Math.max(most, Integer.bitCount(at(first, k)));
            }
            return most;
        }

        /** The lesser (0) or the other end (1) of the root's line of a point: cliques are ahead of points given. */
        int rootEnd(int p, int what) {
            int skip = what;
            for (int k = 0; k < size; k++) {
                if (has(at(first, k), p)) {
                    if (skip == 0) {
                        return k;
                    }
                    skip--;
                }
            }
            return numberAhead(p) + skip;
        }

        void writeRoot(Net net) {
            int many = points;
            net.clear(rootPoints());
            for (int p = 0; p < many; p++) {
                net.flip(rootEnd(p, 0), rootEnd(p, 1));
            }
        }

        private int cliquesOf(int p) {
            int many = 0;
            for (int k = 0; k < size; k++) {
                if (has(at(first, k), p)) {
                    many++;
                }
            }
            return many;
        }

        /** How many points the root has ahead of those that are given for point p. */
        private int numberAhead(int p) {
            int number = size;
            for (int q = 0; q < p; q++) {
                number += 2 - cliquesOf(q);
            }
            return number;
        }
    }

    /** The pieces of a net; by Beineke no piece has more than six points, and with three or fewer all have a cover. */
    private static final class Proof {
        private static final int PIECE_LEAST = 4;
        private static final int PIECE_MOST = 6;

        private final Net seen = new Net();
        private final int[] coverless = new int[512];
        private final int[] blames = new int[POINTS_MOST];
        private int many;
        private int least;

        int many() {
            return many;
        }

        int least() {
            return least;
        }

        int blame(int p) {
            return at(blames, p);
        }

        void look(Net net) {
            if (seen.equalTo(net)) {
                return;
            }
            seen.copy(net);
            forget();
            if (net.hasCover(net.all())) {
                return;
            }
            for (int set = 0; set <= net.all(); set++) {
                int size = Integer.bitCount(set);
                if (size >= PIECE_LEAST && size <= PIECE_MOST) {
                    weigh(set, size);
                }
            }
        }

        private void forget() {
            many = 0;
            least = 0;
            for (int p = 0; p < POINTS_MOST; p++) {
                put(blames, p, 0);
            }
            for (int k = 0; k < coverless.length; k++) {
                coverless[k] = 0;
            }
        }

        private void weigh(int set, int size) {
            boolean within = hasCoverlessWithin(set);
            if (!within && seen.hasCover(set)) {
                return;
            }
            put(coverless, set >> 5, at(coverless, set >> 5) | 1 << (set & 31));
            if (!within) {
                note(set, size);
            }
        }

        /** Sets are weighed in order of their numbers, so those with one point less have been. */
        private boolean hasCoverlessWithin(int set) {
            for (int p = 0; p < seen.size(); p++) {
                if (has(set, p)) {
                    int rest = set & ~(1 << p);
                    if ((at(coverless, rest >> 5) >>> (rest & 31) & 1) != 0) {
                        return true;
                    }
                }
            }
            return false;
        }

        private void note(int set, int size) {
            many++;
            if (least == 0 || size < Integer.bitCount(least)) {
                least = set;
            }
            for (int p = 0; p < seen.size(); p++) {
                if (has(set, p)) {
                    put(blames, p, at(blames, p) + 1);
                }
            }
        }
    }

    /** Largest sets of points that all go together: tied ones, or untied ones. */
    private static final class Choice {
        private final int[] friends = new int[POINTS_MOST];
        private int points;
        private int all;

        void takeTied(Net net) {
            points = net.size();
            all = net.all();
            for (int p = 0; p < points; p++) {
                put(friends, p, net.tiesOf(p));
            }
        }

        void takeUntied(Net net) {
            points = net.size();
            all = net.all();
            for (int p = 0; p < points; p++) {
                put(friends, p, all & ~net.tiesOf(p) & ~(1 << p));
            }
        }

        int most() {
            return mostOf(friends, all, 0);
        }

        /** Of the largest sets the least number: a high point is left out as long as enough stay without it. */
        int leastSet() {
            int left = all;
            int need = most();
            int set = 0;
            for (int p = points - 1; p >= 0; p--) {
                if (!has(left, p)) {
                    continue;
                }
                int without = left & ~(1 << p);
                if (mostOf(friends, without, 0) >= need) {
                    left = without;
                } else {
                    set |= 1 << p;
                    need--;
                    left = without & at(friends, p);
                }
            }
            return set;
        }

        private static int mostOf(int[] friends, int among, int level) {
            if (among == 0 || level > POINTS_MOST) {
                return 0;
            }
            int p = lowest(among);
            int rest = among & ~(1 << p);
            int with = 1 + mostOf(friends, rest & at(friends, p), level + 1);
            // a friend of all the rest never hurts
            if ((rest & ~at(friends, p)) == 0) {
                return with;
            }
            return Math.max(with, mostOf(friends, rest, level + 1));
        }
    }

    /** The first colouring with the fewest colours. */
    private static final class Palette {
        private final int[] colours = new int[POINTS_MOST];
        private final int[] wearers = new int[POINTS_MOST];

        int colourOf(int p) {
            return at(colours, p);
        }

        /** Points of a clump all need colours of their own, so fewer are not tried. */
        int paint(Net net, Choice choice) {
            choice.takeTied(net);
            for (int most = choice.most(); most < net.size(); most++) {
                clear();
                if (fill(this, net, 0, 0, most)) {
                    return most;
                }
            }
            clear();
            fill(this, net, 0, 0, net.size());
            return net.size();
        }

        private void clear() {
            for (int c = 0; c < POINTS_MOST; c++) {
                put(wearers, c, 0);
            }
        }

        /** Of the colours not used yet the least alone is tried: the others would only be it under another name. */
        private static boolean fill(Palette own, Net net, int p, int used, int most) {
            if (p >= net.size() || p >= POINTS_MOST) {
                return true;
            }
            for (int c = 0; c <= used && c < most; c++) {
                int wearers = at(own.wearers, c);
                if ((wearers & net.tiesOf(p)) != 0) {
                    continue;
                }
                put(own.colours, p, c);
                put(own.wearers, c, wearers | 1 << p);
                if (fill(own, net, p + 1, Math.max(used, c + 1), most)) {
                    return true;
                }
                put(own.wearers, c, wearers);
            }
            return false;
        }
    }

    /** Nets kept in numbered slots of one row. */
    private static final class Shelf {
        private static final int SLOTS = 8;
        private static final int CELLS = 1 + POINTS_MOST;

        private final int[] cells = new int[SLOTS * CELLS];

        void save(int slot, Net net) {
            int from = slot * CELLS;
            put(cells, from, net.size());
            for (int p = 0; p < POINTS_MOST; p++) {
                put(cells, from + 1 + p, net.tiesOf(p));
            }
        }

        void load(int slot, Net net) {
            int from = slot * CELLS;
            net.clear(at(cells, from));
            for (int p = 0; p < net.size(); p++) {
                net.setTies(p, at(cells, from + 1 + p));
            }
        }
    }

    /** The nets as they were ahead of the latest acts, in a ring. */
    private static final class Acts {
        private final Shelf shelf = new Shelf();
        private int oldest;
        private int count;

        int size() {
            return count;
        }

        void forget() {
            count = 0;
        }

        void keep(Net net) {
            if (count == ACTS_KEPT) {
                oldest = (oldest + 1) % ACTS_KEPT;
                count--;
            }
            shelf.save((oldest + count) % ACTS_KEPT, net);
            count++;
        }

        /** How many more can be taken back; NONE, and nothing is done, if none is kept. */
        int takeBack(Net net) {
            if (count == 0) {
                return NONE;
            }
            count--;
            shelf.load((oldest + count) % ACTS_KEPT, net);
            return count;
        }
    }
}
