import java.util.NoSuchElementException;

/** The document's promises, one method each: ordinary inputs, the edges that it names, and wrong inputs. */
public final class MeetingNetsPromises {
    private static final int NONE = MeetingNets.NONE;
    private static final String CLAW = "point a;point b;point c;point d;line a b;line a c;line a d;";
    private static final String DIAMOND =
        "point a;point b;point c;point d;line a b;line a c;line b c;line b d;line c d;";
    private static final String SQUARE = "point a;point b;point c;point d;line a b;line b c;line c d;line d a;";
    private static int promise;
    private static int wrong;

    public static void main(String[] args) {
        for (promise = 1; promise <= 36; promise++) {
            check();
        }
        promise = 0;
        due("NONE", NONE, -1);
        System.out.println(wrong == 0 ? "all promises hold" : wrong + " answers are wrong");
        if (wrong != 0) {
            System.exit(1);
        }
    }

    private static void check() {
        switch (promise) {
            case 1: newObject(); break;
            case 2: feed(); break;
            case 3: end(); break;
            case 4: net(); netFaults(); netLong(); break;
            case 5: fault(); break;
            case 6: now(); break;
            case 7: near(); break;
            case 8: line(); break;
            case 9: tie(); break;
            case 10: part(); break;
            case 11: come(); break;
            case 12: go(); break;
            case 13: covers(); break;
            case 14: cliques(); break;
            case 15: clique(); break;
            case 16: root(); break;
            case 17: rootLine(); break;
            case 18: piece(); break;
            case 19: pieces(); break;
            case 20: blamed(); break;
            case 21: odd(); break;
            case 22: claw(); break;
            case 23: meet(); break;
            case 24: back(); break;
            case 25: depth(); break;
            case 26: mending(); break;
            case 27: may(); break;
            case 28: mays(); break;
            case 29: colours(); break;
            case 30: colourAt(); break;
            case 31: apart(); break;
            case 32: clump(); break;
            case 33: drawn(); break;
            case 34: undo(); break;
            case 35: image(); break;
            default: restore();
        }
    }

    // ---- what the tests are made of

    private static void due(String call, int got, int want) {
        if (got != want) {
            wrong++;
            System.out.println("promise " + promise + ": " + call + " answered " + got + ", due is " + want);
        }
    }

    private static void due(String call, boolean got, boolean want) {
        due(call, got ? 1 : 0, want ? 1 : 0);
    }

    private static void put(MeetingNets x, String text) {
        x.end(0);
        for (int i = 0; i < text.length(); i += 20) {
            int[] five = new int[5];
            for (int k = 0; k < 20; k++) {
                five[k / 4] = five[k / 4] << 8 | (i + k < text.length() ? text.charAt(i + k) : 0);
            }
            x.feed(five[0], five[1], five[2], five[3], five[4]);
        }
        due("end(" + text.length() + ")", x.end(text.length()), true);
    }

    private static MeetingNets of(String text) {
        MeetingNets x = new MeetingNets();
        put(x, text);
        x.net();
        due("fault() of " + text, x.fault(), 0);
        return x;
    }

    /** A net whose points come one by one, each with its ties to those ahead of it. */
    private static MeetingNets coming(int... sets) {
        MeetingNets x = new MeetingNets();
        for (int set : sets) {
            x.come(set);
        }
        return x;
    }

    /** All points of a net tied to all. */
    private static MeetingNets full(int points) {
        MeetingNets x = new MeetingNets();
        for (int p = 0; p < points; p++) {
            x.come((1 << p) - 1);
        }
        return x;
    }

    private static void text(String text, int net, int fault) {
        MeetingNets x = of(CLAW);
        put(x, text);
        due("net() of <" + text + ">", x.net(), net);
        due("fault() of <" + text + ">", x.fault(), fault);
        due("now(8) behind <" + text + ">", x.now(8), 0);
        if (fault != 0) {
            due("now(1) behind <" + text + ">", x.now(1), 3);
        }
    }

    private static boolean nearThrows(MeetingNets x, int p) {
        try {
            x.near(p);
            return false;
        } catch (NoSuchElementException e) {
            return true;
        }
    }

    private static boolean lineThrows(MeetingNets x, int l, int what) {
        try {
            x.line(l, what);
            return false;
        } catch (NoSuchElementException e) {
            return true;
        }
    }

    private static boolean rootLineThrows(MeetingNets x, int p, int what) {
        try {
            x.rootLine(p, what);
            return false;
        } catch (NoSuchElementException e) {
            return true;
        }
    }

    private static String points(int n) {
        StringBuilder b = new StringBuilder();
        for (int k = 0; k < n; k++) {
            b.append("point ").append((char) ('a' + k)).append(';');
        }
        return b.toString();
    }

    private static String blanks(String text, int length) {
        StringBuilder b = new StringBuilder(text);
        while (b.length() < length) {
            b.append(' ');
        }
        return b.toString();
    }

    // ---- 1 to 12: the tape, the text, what is told of a net, its acts

    private static void newObject() {
        MeetingNets x = new MeetingNets();
        for (int what = 0; what <= 8; what++) {
            due("now(" + what + ")", x.now(what), 0);
        }
        due("fault()", x.fault(), 0);
        due("undo()", x.undo(), NONE);
        due("restore(0)", x.restore(0), false);
        due("restore(1)", x.restore(1), false);
        due("net()", x.net(), 0);
    }

    private static void feed() {
        MeetingNets x = new MeetingNets();
        for (int k = 1; k <= 37; k++) {
            due("feed " + k, x.feed(1, 2, 3, 4, 5), 20 * k);
        }
        due("feed over 740", x.feed(1, 2, 3, 4, 5), NONE);
        due("now(8)", x.now(8), 740);
        x.end(721);
        due("feed at 721", x.feed(1, 2, 3, 4, 5), NONE);
        due("now(8)", x.now(8), 721);
        x.end(720);
        due("feed at 720", x.feed(1, 2, 3, 4, 5), 740);
        // "poin" "t ab" ";   " and blanks: of each number the highest byte is first
        MeetingNets y = new MeetingNets();
        y.feed(0x706f696e, 0x74206162, 0x3b202020, 0x20202020, 0x20202020);
        due("net()", y.net(), 1);
        MeetingNets z = new MeetingNets();
        z.feed(0x706f696e, 0x74206180, 0x3b202020, 0x20202020, 0xffffffff);
        due("net()", z.net(), -1 - 7);
    }

    private static void end() {
        MeetingNets x = new MeetingNets();
        due("end(0)", x.end(0), true);
        due("end(1)", x.end(1), false);
        due("end(-1)", x.end(-1), false);
        x.feed(0x706f696e, 0x7420613b, 0x706f696e, 0x7420623b, 0x706f696e);
        due("end(21)", x.end(21), false);
        due("now(8)", x.now(8), 20);
        due("end(20)", x.end(20), true);
        due("end(16)", x.end(16), true);
        due("now(8)", x.now(8), 16);
        due("end(17)", x.end(17), false);
        due("end(min)", x.end(Integer.MIN_VALUE), false);
        due("net()", x.net(), 2);
        due("end(1) behind net()", x.end(1), false);
    }

    private static void net() {
        text("", 0, 0);
        text(" \n ", 0, 0);
        text(CLAW, 7, 0);
        text("point a;", 1, 0);
        text("point\na ; ", 1, 0);
        text("point abcdefg;", 1, 0);
        text("point poin;point lines;line lines poin;", 3, 0);
        MeetingNets x = of("point c;point a;point b;line b c;line a b;");
        due("near(0)", x.near(0), 4);
        due("near(1)", x.near(1), 4);
        due("near(2)", x.near(2), 3);
        due("line(0, 1)", x.line(0, 1), 2);
        x.come(0);
        x.image(1);
        put(x, "point");
        due("net()", x.net(), -6);
        due("now(0)", x.now(0), 4);
        due("now(7)", x.now(7), 1);
        put(x, "point q;");
        due("net()", x.net(), 1);
        due("now(0)", x.now(0), 1);
        due("now(7)", x.now(7), 0);
        due("undo()", x.undo(), NONE);
        due("restore(1)", x.restore(1), true);
        due("now(0)", x.now(0), 4);
    }

    private static void netFaults() {
        text("points a;", -1, 1);
        text("pointa;", -1, 1);
        text(";", -1, 1);
        text("Point a;", -1, 1);
        text("\tpoint a;", -1, 1);
        text("point a;;", -9, 1);
        text("point ;", -7, 1);
        text("point point;", -7, 1);
        text("point line;", -7, 1);
        text("point abcdefgh;", -7, 1);
        text("point a b;", -9, 1);
        text("point a1;", -8, 1);
        text("point a", -8, 1);
        text("point a ", -9, 1);
        text("point", -6, 1);
        text("point a;line", -13, 1);
        text("point a;line a", -15, 1);
        text("point a;line a;", -15, 1);
        text("point a;line line a;", -14, 1);
        text("point a;line a point;", -16, 1);
        text("point a;point b;line a b b;", -26, 1);
        text("point a;point a;", -15, 2);
        text("point a;point aa;point a b;", -24, 2);
        text("line a b;", -6, 2);
        text("point a;line a b;point b;", -16, 2);
        text("point a;line a a;", -16, 2);
        text("point a;line b a;", -14, 2);
        text("point a;point b;line a b;line a b;", -33, 2);
        text("point a;point b;line a b;line b a;", -33, 2);
        text(points(14), 14, 0);
        text(points(14) + "point o;", -113, 3);
        text(points(14) + "point a;", -113, 3);
        text(points(14) + "point", -113, 3);
        text(points(14) + "points", -113, 1);
        text(points(14) + "line a b;", 15, 0);
    }

    private static void netLong() {
        text(blanks("point a;", 700), 1, 0);
        text(blanks("point a;", 701), -701, 1);
        text(blanks("point a;", 740), -701, 1);
        text(blanks("point a", 700), -701, 1);
        text(blanks("point a", 699), -700, 1);
        text(blanks("point a", 740), -701, 1);
        text(blanks("", 692) + "point a;", 1, 0);
        text(blanks("", 693) + "point a;", -701, 1);
        // words that begin ahead of 700 are read whole
        text(blanks("point ", 695) + "abcdef;", -701, 1);
        text(blanks("point ", 695) + "abcdefg;", -701, 1);
        text(blanks("point ", 695) + "abcdefgh;", -696, 1);
        text(blanks("point ", 699) + "line;", -700, 1);
        text(blanks("point a;point ", 699) + "aa;", -701, 1);
        text(blanks("point aa;point ", 699) + "aa;", -700, 2);
        text(blanks("point aa;", 699) + "pointed;", -700, 1);
        text(blanks(points(14), 699) + "point z;", -700, 3);
        text(blanks(points(14), 700) + "point z;", -701, 1);
        text(blanks("point a;", 699) + "?", -700, 1);
        text(blanks("point a;", 700) + "?", -701, 1);
        text(blanks("point a;;", 740), -9, 1);
    }

    private static void fault() {
        MeetingNets x = new MeetingNets();
        due("fault()", x.fault(), 0);
        put(x, "line a b;");
        due("fault() ahead of net()", x.fault(), 0);
        x.net();
        due("fault()", x.fault(), 2);
        x.come(0);
        x.image(0);
        x.restore(0);
        due("fault() behind restore()", x.fault(), 2);
        put(x, ";");
        x.net();
        due("fault()", x.fault(), 1);
        put(x, points(14) + "point o;");
        x.net();
        due("fault()", x.fault(), 3);
        x.net();
        due("fault()", x.fault(), 0);
    }

    private static void now() {
        MeetingNets x = of("point a;point b;point c;point d;point e;point f;"
            + "line a b;line b c;line c a;line a d;line a e;");
        due("now(0)", x.now(0), 6);
        due("now(1)", x.now(1), 5);
        due("now(2)", x.now(2), 2);
        due("now(3)", x.now(3), 4);
        due("now(4)", x.now(4), 1);
        due("now(5)", x.now(5), 1);
        due("now(6)", x.now(6), 2);
        due("now(7)", x.now(7), 0);
        due("now(8)", x.now(8), 0);
        due("now(9)", x.now(9), NONE);
        due("now(-1)", x.now(-1), NONE);
        due("now(max)", x.now(Integer.MAX_VALUE), NONE);
        MeetingNets y = full(14);
        due("now(1)", y.now(1), 91);
        due("now(2)", y.now(2), 1);
        due("now(3)", y.now(3), 13);
        due("now(4)", y.now(4), 364);
        due("now(5)", y.now(5), 364);
        due("now(6)", y.now(6), 0);
        due("now(7)", y.now(7), 8);
        MeetingNets z = coming(0, 1, 3, 7);
        due("now(4)", z.now(4), 4);
        // the fourth point is tied to all three of any: an odd number
        due("now(5)", z.now(5), 4);
        due("now(5) of a diamond", of(DIAMOND).now(5), 0);
    }

    private static void near() {
        MeetingNets x = of(CLAW);
        due("near(0)", x.near(0), 14);
        due("near(3)", x.near(3), 1);
        due("near(4) throws", nearThrows(x, 4), true);
        due("near(-1) throws", nearThrows(x, -1), true);
        due("near(14) throws", nearThrows(full(14), 14), true);
        due("near(13)", full(14).near(13), (1 << 13) - 1);
        due("near(0) throws", nearThrows(new MeetingNets(), 0), true);
    }

    private static void line() {
        MeetingNets x = of("point a;point b;point c;line c b;line c a;");
        due("line(0, 0)", x.line(0, 0), 0);
        due("line(0, 1)", x.line(0, 1), 2);
        due("line(1, 0)", x.line(1, 0), 1);
        due("line(1, 1)", x.line(1, 1), 2);
        due("line(2, 0) throws", lineThrows(x, 2, 0), true);
        due("line(-1, 0) throws", lineThrows(x, -1, 0), true);
        due("line(0, 2) throws", lineThrows(x, 0, 2), true);
        due("line(0, -1) throws", lineThrows(x, 0, -1), true);
        due("line(90, 1)", full(14).line(90, 1), 13);
        due("line(90, 0)", full(14).line(90, 0), 12);
        due("line(91, 0) throws", lineThrows(full(14), 91, 0), true);
    }

    private static void tie() {
        MeetingNets x = coming(0, 0, 0);
        due("tie(2, 0)", x.tie(2, 0), 0);
        due("near(0)", x.near(0), 4);
        due("near(2)", x.near(2), 1);
        due("now(7)", x.now(7), 4);
        due("tie(0, 2)", x.tie(0, 2), 1);
        due("now(7)", x.now(7), 4);
        due("tie(1, 1)", x.tie(1, 1), NONE);
        due("tie(0, 3)", x.tie(0, 3), NONE);
        due("tie(3, 0)", x.tie(3, 0), NONE);
        due("tie(-1, 0)", x.tie(-1, 0), NONE);
        due("tie(0, -1)", x.tie(0, -1), NONE);
        due("tie(0, 32)", x.tie(0, 32), NONE);
        due("now(7)", x.now(7), 4);
    }

    private static void part() {
        MeetingNets x = coming(0, 1, 3);
        due("part(2, 0)", x.part(2, 0), 0);
        due("near(0)", x.near(0), 2);
        due("near(2)", x.near(2), 2);
        due("now(7)", x.now(7), 4);
        due("part(0, 2)", x.part(0, 2), 1);
        due("part(0, 0)", x.part(0, 0), NONE);
        due("part(3, 0)", x.part(3, 0), NONE);
        due("part(0, 3)", x.part(0, 3), NONE);
        due("part(-1, 1)", x.part(-1, 1), NONE);
        due("part(1, -1)", x.part(1, -1), NONE);
        due("now(7)", x.now(7), 4);
    }

    private static void come() {
        MeetingNets x = new MeetingNets();
        due("come(1)", x.come(1), NONE);
        due("come(-1)", x.come(-1), NONE);
        due("now(7)", x.now(7), 0);
        due("come(0)", x.come(0), 0);
        due("come(2)", x.come(2), NONE);
        due("come(min)", x.come(Integer.MIN_VALUE), NONE);
        due("come(1)", x.come(1), 1);
        due("come(2)", x.come(2), 2);
        due("near(1)", x.near(1), 5);
        for (int p = 3; p < 14; p++) {
            due("come", x.come(1), p);
        }
        due("near(0)", x.near(0), (1 << 14) - 1 - 1 - 4);
        due("come(0)", x.come(0), NONE);
        due("now(0)", x.now(0), 14);
    }

    private static void go() {
        MeetingNets x = coming(0, 1, 2, 4, 9);
        due("go(5)", x.go(5), NONE);
        due("go(-1)", x.go(-1), NONE);
        due("go(1)", x.go(1), 4);
        due("near(0)", x.near(0), 8);
        due("near(1)", x.near(1), 4);
        due("near(2)", x.near(2), 2 + 8);
        due("near(3)", x.near(3), 1 + 4);
        due("go(3)", x.go(3), 3);
        due("near(0)", x.near(0), 0);
        due("go(0)", x.go(0), 2);
        due("near(0)", x.near(0), 2);
        due("go(0)", x.go(0), 1);
        due("go(0)", x.go(0), 0);
        due("go(0)", x.go(0), NONE);
        MeetingNets y = full(14);
        due("go(13)", y.go(13), 13);
        due("near(0)", y.near(0), (1 << 13) - 2);
    }

    // ---- 13 to 25: covers, roots, pieces, triangles, claws, meeting and going back

    private static void covers() {
        due("covers() of none", new MeetingNets().covers(), 1);
        due("covers() of two apart", coming(0, 0).covers(), 1);
        due("covers() of a triangle", full(3).covers(), 2);
        due("covers() of a diamond", of(DIAMOND).covers(), 2);
        due("covers() of a claw", of(CLAW).covers(), 0);
        due("covers() of four", full(4).covers(), 1);
        due("covers() of fourteen", full(14).covers(), 1);
        // four triangles, each of its own
        due("covers()", coming(0, 1, 3, 0, 8, 24, 0, 64, 192, 0, 512, 1536).covers(), 16);
        // eight sides, each two points tied but three pairs
        due("covers() of an octahedron", coming(0, 0, 3, 3, 15, 15).covers(), 2);
    }

    private static void cliques() {
        due("cliques() of none", new MeetingNets().cliques(), 0);
        due("cliques() of a point", coming(0).cliques(), 0);
        due("cliques() of a triangle", full(3).cliques(), 3);
        due("cliques() of four", full(4).cliques(), 1);
        due("cliques() of a claw", of(CLAW).cliques(), NONE);
        due("cliques() of a square", of(SQUARE).cliques(), 4);
        // a ring of all fourteen
        MeetingNets x = coming(0, 1, 2, 4, 8, 16, 32, 64, 128, 256, 512, 1024, 2048, 4097);
        due("cliques() of a ring", x.cliques(), 14);
        due("clique(13) of a ring", x.clique(13), 1 << 12 | 1 << 13);
    }

    private static void clique() {
        MeetingNets x = of(DIAMOND);
        due("clique(0)", x.clique(0), 3);
        due("clique(1)", x.clique(1), 5);
        due("clique(2)", x.clique(2), 14);
        due("clique(3)", x.clique(3), NONE);
        due("clique(-1)", x.clique(-1), NONE);
        due("clique(0) of a claw", of(CLAW).clique(0), NONE);
        due("clique(0) of none", new MeetingNets().clique(0), NONE);
        due("clique(0) of fourteen", full(14).clique(0), (1 << 14) - 1);
        // the first cover's first clique leaves the highest point out
        MeetingNets y = coming(0, 0, 3, 3, 15, 15);
        due("clique(0)", y.clique(0), 1 << 0 | 1 << 2 | 1 << 4);
        due("clique(1)", y.clique(1), 1 << 0 | 1 << 3 | 1 << 5);
        due("clique(2)", y.clique(2), 1 << 1 | 1 << 2 | 1 << 5);
        due("clique(3)", y.clique(3), 1 << 1 | 1 << 3 | 1 << 4);
    }

    private static void root() {
        MeetingNets x = of(DIAMOND);
        due("root(0)", x.root(0), 4);
        due("root(1)", x.root(1), 3);
        due("root(2)", x.root(2), 1);
        due("root(3)", x.root(3), NONE);
        due("root(-1)", x.root(-1), NONE);
        MeetingNets y = coming(0, 0, 0, 1);
        due("root(0)", y.root(0), 1 + 1 + 2 + 2 + 1);
        due("root(1)", y.root(1), 2);
        due("root(2)", y.root(2), 3);
        due("root(1) of two apart", coming(0, 0).root(1), 1);
        due("root(0) of fourteen apart", coming(new int[14]).root(0), 28);
        due("root(2) of fourteen apart", coming(new int[14]).root(2), 14);
        due("root(0) of none", new MeetingNets().root(0), 0);
        due("root(1) of none", new MeetingNets().root(1), 0);
        due("root(0) of a claw", of(CLAW).root(0), NONE);
        due("root(2) of a claw", of(CLAW).root(2), NONE);
        due("root(1) of fourteen", full(14).root(1), 14);
    }

    private static void rootLine() {
        // points 0 and 3 are tied, 1 and 2 are alone
        MeetingNets x = coming(0, 0, 0, 1);
        int[][] lines = {{0, 1}, {2, 3}, {4, 5}, {0, 6}};
        for (int p = 0; p < 4; p++) {
            due("rootLine(" + p + ", 0)", x.rootLine(p, 0), lines[p][0]);
            due("rootLine(" + p + ", 1)", x.rootLine(p, 1), lines[p][1]);
        }
        due("rootLine(4, 0) throws", rootLineThrows(x, 4, 0), true);
        due("rootLine(-1, 0) throws", rootLineThrows(x, -1, 0), true);
        due("rootLine(0, 2) throws", rootLineThrows(x, 0, 2), true);
        due("rootLine(0, -1) throws", rootLineThrows(x, 0, -1), true);
        due("rootLine of a claw throws", rootLineThrows(of(CLAW), 0, 0), true);
        MeetingNets y = of(DIAMOND);
        due("rootLine(1, 0)", y.rootLine(1, 0), 0);
        due("rootLine(1, 1)", y.rootLine(1, 1), 2);
        due("rootLine(3, 0)", y.rootLine(3, 0), 2);
        due("rootLine(3, 1)", y.rootLine(3, 1), 3);
        due("rootLine(13, 1)", coming(new int[14]).rootLine(13, 1), 27);
    }

    /** Five points, all tied but the last two. */
    private static MeetingNets fiveLessOne() {
        return coming(0, 1, 3, 7, 7);
    }

    /** A wheel of five: six points. */
    private static MeetingNets wheel() {
        return coming(0, 1, 2, 4, 9, 31);
    }

    private static void piece() {
        due("piece() of none", new MeetingNets().piece(), 0);
        due("piece() of a diamond", of(DIAMOND).piece(), 0);
        due("piece() of a claw", of(CLAW).piece(), 15);
        due("piece()", fiveLessOne().piece(), 31);
        due("piece() of a wheel", wheel().piece(), 63);
        // the five-point piece has the lesser number, the claw the fewer points
        MeetingNets x = fiveLessOne();
        x.come(0);
        x.come(1 << 5);
        x.come(1 << 5);
        x.come(1 << 5);
        due("piece()", x.piece(), 15 << 5);
        // of two claws the least number
        due("piece()", coming(0, 1, 1, 1, 1).piece(), 15);
        x = coming(0, 0, 0, 7, 7);
        due("piece()", x.piece(), 15);
        x = of(CLAW);
        x.part(0, 1);
        due("piece() of a claw less a line", x.piece(), 0);
        x.undo();
        due("piece() of a claw again", x.piece(), 15);
    }

    private static void pieces() {
        due("pieces() of none", new MeetingNets().pieces(), 0);
        due("pieces() of fourteen", full(14).pieces(), 0);
        due("pieces() of a claw", of(CLAW).pieces(), 1);
        due("pieces()", fiveLessOne().pieces(), 1);
        due("pieces() of a wheel", wheel().pieces(), 1);
        // one tied to thirteen others: as many claws as there are threes of them
        due("pieces() of a star", coming(0, 1, 1, 1, 1, 1, 1, 1, 1, 1, 1, 1, 1, 1).pieces(), 286);
        due("pieces()", coming(0, 0, 0, 7, 7).pieces(), 2);
    }

    private static void blamed() {
        MeetingNets x = coming(0, 1, 1, 1, 1, 0);
        due("blamed(0)", x.blamed(0), 4);
        due("blamed(1)", x.blamed(1), 3);
        due("blamed(4)", x.blamed(4), 3);
        due("blamed(5)", x.blamed(5), 0);
        due("blamed(6)", x.blamed(6), NONE);
        due("blamed(-1)", x.blamed(-1), NONE);
        x.go(1);
        due("blamed(0)", x.blamed(0), 1);
        due("blamed(5)", x.blamed(5), NONE);
        due("blamed(0) of fourteen", full(14).blamed(0), 0);
        due("blamed(13)", coming(0, 1, 1, 1, 1, 1, 1, 1, 1, 1, 1, 1, 1, 1).blamed(13), 66);
    }

    private static void odd() {
        MeetingNets x = coming(0, 1, 3, 1);
        due("odd(0, 1, 2)", x.odd(0, 1, 2), 1);
        due("odd(2, 0, 1)", x.odd(2, 0, 1), 1);
        due("odd(0, 1, 3)", x.odd(0, 1, 3), NONE);
        due("odd(0, 0, 1)", x.odd(0, 0, 1), NONE);
        due("odd(0, 1, 0)", x.odd(0, 1, 0), NONE);
        due("odd(0, 1, 4)", x.odd(0, 1, 4), NONE);
        due("odd(4, 1, 0)", x.odd(4, 1, 0), NONE);
        due("odd(0, -1, 2)", x.odd(0, -1, 2), NONE);
        due("odd of a diamond", of(DIAMOND).odd(1, 2, 3), 0);
        due("odd of three", full(3).odd(0, 1, 2), 0);
        due("odd of four", full(4).odd(3, 1, 2), 1);
    }

    private static void claw() {
        due("claw()", of(CLAW).claw(), 15);
        due("claw() of none", new MeetingNets().claw(), 0);
        due("claw() of a diamond", of(DIAMOND).claw(), 0);
        due("claw() of a wheel", wheel().claw(), 0);
        // claws with their hearts at 0 (behind it 4, 5, 6) and at 3 (1, 2 and 7)
        MeetingNets x = coming(0, 0, 0, 6, 1, 1, 1, 8);
        due("claw()", x.claw(), 1 << 0 | 1 << 4 | 1 << 5 | 1 << 6);
        due("now(6)", x.now(6), 2);
        x.part(3, 7);
        x.tie(0, 3);
        x.part(0, 3);
        x.part(0, 6);
        due("claw()", x.claw(), 0);
        x.tie(0, 3);
        due("claw()", x.claw(), 1 << 0 | 1 << 1 | 1 << 2 | 1 << 3);
    }

    private static void meet() {
        MeetingNets x = of(SQUARE);
        due("meet()", x.meet(), 4);
        // lines in order: ab, ad, bc, cd
        due("near(0)", x.near(0), 2 + 4);
        due("near(1)", x.near(1), 1 + 8);
        due("near(2)", x.near(2), 1 + 8);
        due("near(3)", x.near(3), 2 + 4);
        due("now(7)", x.now(7), 1);
        due("meet() of none", new MeetingNets().meet(), 0);
        MeetingNets y = coming(0, 0);
        due("meet() of two apart", y.meet(), 0);
        due("now(0)", y.now(0), 0);
        due("now(7)", y.now(7), 3);
        // fourteen lines, then fifteen
        MeetingNets z = full(6);
        due("meet() of fifteen lines", z.meet(), NONE);
        due("now(7)", z.now(7), 6);
        due("now(0)", z.now(0), 6);
        z.part(4, 5);
        due("meet() of fourteen lines", z.meet(), 14);
        due("meet() of a claw", of(CLAW).meet(), 3);
    }

    private static void back() {
        MeetingNets x = of(DIAMOND);
        due("back()", x.back(), 4);
        due("now(1)", x.now(1), 4);
        due("near(0)", x.near(0), 2 + 4);
        due("near(1)", x.near(1), 1 + 4);
        due("near(2)", x.near(2), 1 + 2 + 8);
        due("near(3)", x.near(3), 4);
        due("now(7)", x.now(7), 1);
        MeetingNets y = of(CLAW);
        due("back() of a claw", y.back(), NONE);
        due("now(7)", y.now(7), 0);
        due("back() of none", new MeetingNets().back(), 0);
        MeetingNets z = coming(0, 0, 0, 0, 0, 0, 0);
        due("back() of seven apart", z.back(), 14);
        due("now(1)", z.now(1), 7);
        due("near(13)", z.near(13), 1 << 12);
        due("back() to fifteen", coming(0, 1, 0, 0, 0, 0, 0, 0).back(), NONE);
        due("back() to fifteen", full(14).back(), NONE);
        due("back() to fourteen", full(13).back(), 14);
    }

    private static void depth() {
        due("depth() of none", new MeetingNets().depth(), 20);
        MeetingNets x = coming(0);
        due("depth() of a point", x.depth(), 13);
        due("now(0)", x.now(0), 1);
        due("now(7)", x.now(7), 1);
        due("depth() of a claw", of(CLAW).depth(), 0);
        due("depth() of a square", of(SQUARE).depth(), 20);
        due("depth() of fourteen", full(14).depth(), 0);
        due("depth() of four", full(4).depth(), 1);
        due("depth() of seven apart", coming(0, 0, 0, 0, 0, 0, 0).depth(), 1);
        // back twice, then a claw is in the way
        MeetingNets y = of(CLAW);
        y.meet();
        due("depth() of a triangle", y.depth(), 20);
        MeetingNets z = coming(0, 1, 1, 1, 2);
        z.meet();
        due("depth()", z.depth(), 1);
    }

    // ---- 26 to 32: mending, sets that may come, colours, choices

    private static void mending() {
        MeetingNets x = of(CLAW);
        due("mending(0)", x.mending(0), 6);
        due("mending(1)", x.mending(1), 0);
        due("mending(2)", x.mending(2), 1);
        due("mending(3)", x.mending(3), NONE);
        due("mending(-1)", x.mending(-1), NONE);
        due("now(7)", x.now(7), 0);
        due("now(1)", x.now(1), 3);
        // 3 and 4 TIED: one clique; two of 0, 1, 2 PARTED: a wheel of four; 3 or 4 PARTED from one: it keeps two lines
        MeetingNets y = fiveLessOne();
        due("mending(0)", y.mending(0), 1 + 3 + 6);
        MeetingNets z = of(DIAMOND);
        due("mending(0) with a cover", z.mending(0), 0);
        due("mending(1) with a cover", z.mending(1), NONE);
        due("mending(2) with a cover", z.mending(2), NONE);
        // a star of four: tying two of its ends leaves claws, and so does parting one
        MeetingNets w = coming(0, 1, 1, 1, 1, 1);
        due("mending(0)", w.mending(0), 0);
        due("mending(1)", w.mending(1), NONE);
        due("mending(2)", w.mending(2), NONE);
        // two claws: no one pair mends both
        due("mending(0)", coming(0, 1, 1, 1, 0, 16, 16, 16).mending(0), 0);
        // 3 is tied to five, of which four are not tied to one another
        MeetingNets v = coming(0, 0, 0, 7, 8, 24);
        due("mending(0)", v.mending(0), 0);
        // a claw with its heart at 3; the pairs ahead of (0, 3) mend nothing
        MeetingNets u = coming(0, 0, 1, 1, 8, 8);
        due("piece()", u.piece(), 1 << 0 | 1 << 3 | 1 << 4 | 1 << 5);
        due("mending(1)", u.mending(1), 0);
        due("mending(2)", u.mending(2), 3);
    }

    private static void may() {
        MeetingNets x = of("point a;point b;point c;line a b;line a c;");
        due("may(0)", x.may(0), 1);
        due("may(1)", x.may(1), 0);
        due("may(2)", x.may(2), 1);
        due("may(3)", x.may(3), 1);
        due("may(6)", x.may(6), 1);
        due("may(7)", x.may(7), 1);
        due("may(8)", x.may(8), NONE);
        due("may(-1)", x.may(-1), NONE);
        due("now(0)", x.now(0), 3);
        due("now(7)", x.now(7), 0);
        due("may(0) of fourteen", full(14).may(0), NONE);
        due("may of thirteen", full(13).may((1 << 13) - 1), 1);
        due("may(3) of thirteen", full(13).may(3), 1);
        due("may(7) of thirteen", full(13).may(7), 0);
    }

    private static void mays() {
        due("mays() of none", new MeetingNets().mays(), 1);
        due("mays() of one", coming(0).mays(), 2);
        due("mays() of three", of("point a;point b;point c;line a b;line a c;").mays(), 7);
        due("mays() of a claw", of(CLAW).mays(), 0);
        // none, or one, or two: more are a claw
        due("mays() of eight apart", coming(new int[8]).mays(), 1 + 8 + 28);
        due("mays() of nine", coming(new int[9]).mays(), NONE);
        // of eight that are all tied: none, one of them, two, or all
        due("mays() of eight", full(8).mays(), 1 + 8 + 28 + 1);
        MeetingNets x = coming(0);
        x.mays();
        due("now(0)", x.now(0), 1);
        due("now(7)", x.now(7), 1);
    }

    private static void colours() {
        due("colours() of none", new MeetingNets().colours(), 0);
        due("colours() of two apart", coming(0, 0).colours(), 1);
        due("colours() of a square", of(SQUARE).colours(), 2);
        due("colours() of a wheel", wheel().colours(), 4);
        due("colours() of fourteen", full(14).colours(), 14);
        due("colours() of a ring of five", coming(0, 1, 2, 4, 9).colours(), 3);
        // Groetzsch's net has no triangle and needs four
        MeetingNets x = coming(0, 1, 2, 4, 9, 18, 5, 10, 20, 9, 31 << 5);
        due("now(1)", x.now(1), 20);
        due("now(4)", x.now(4), 0);
        due("colours()", x.colours(), 4);
    }

    private static void colourAt() {
        // a ring of five with its lines so told that the least colours don't just run on: 0-3, 3-1, 1-4, 4-2, 2-0
        MeetingNets x = coming(0, 0, 1, 3, 6);
        int[] ring = {0, 0, 1, 1, 2};
        for (int p = 0; p < 5; p++) {
            due("colourAt(" + p + ")", x.colourAt(p), ring[p]);
        }
        // a path 0-3-2-1: with two colours 1 can't have the least one, though it isn't tied to 0
        MeetingNets y = coming(0, 0, 2, 5);
        int[] path = {0, 1, 0, 1};
        for (int p = 0; p < 4; p++) {
            due("colourAt(" + p + ") of a path", y.colourAt(p), path[p]);
        }
        due("colourAt(5)", x.colourAt(5), NONE);
        due("colourAt(-1)", x.colourAt(-1), NONE);
        due("colourAt(0) of none", new MeetingNets().colourAt(0), NONE);
        due("colourAt(13)", full(14).colourAt(13), 13);
        due("colourAt(13)", coming(new int[14]).colourAt(13), 0);
    }

    private static void apart() {
        due("apart(0) of none", new MeetingNets().apart(0), 0);
        due("apart(1) of none", new MeetingNets().apart(1), 0);
        due("apart(0)", of(SQUARE).apart(0), 2);
        due("apart(1)", of(SQUARE).apart(1), 5);
        due("apart(2)", of(SQUARE).apart(2), NONE);
        due("apart(-1)", of(SQUARE).apart(-1), NONE);
        due("apart(0)", full(14).apart(0), 1);
        due("apart(1)", full(14).apart(1), 1);
        due("apart(0)", coming(new int[14]).apart(0), 14);
        due("apart(1)", coming(new int[14]).apart(1), (1 << 14) - 1);
        due("apart(1) of a claw", of(CLAW).apart(1), 14);
    }

    private static void clump() {
        due("clump(0) of none", new MeetingNets().clump(0), 0);
        due("clump(1) of none", new MeetingNets().clump(1), 0);
        due("clump(0)", of(DIAMOND).clump(0), 3);
        due("clump(1)", of(DIAMOND).clump(1), 7);
        due("clump(2)", of(DIAMOND).clump(2), NONE);
        due("clump(-1)", of(DIAMOND).clump(-1), NONE);
        due("clump(0)", full(14).clump(0), 14);
        due("clump(1)", full(14).clump(1), (1 << 14) - 1);
        due("clump(0)", coming(new int[14]).clump(0), 1);
        due("clump(1)", coming(new int[14]).clump(1), 1);
        // a pair ahead of a triangle
        due("clump(1)", coming(0, 1, 0, 4, 12).clump(1), 28);
    }

    // ---- 33 to 36: deeds, acts undone, images

    private static void drawn() {
        MeetingNets x = coming(0, 1);
        due("drawn(0, 1)", x.drawn(0, 1), NONE);
        due("drawn(61, 1)", x.drawn(61, 1), NONE);
        due("drawn(-5, 1)", x.drawn(-5, 1), NONE);
        due("now(7)", x.now(7), 2);
        for (int seed = -40; seed < 40; seed++) {
            drawnByHand(seed);
        }
    }

    /** Deed by deed the same draws, done by the calls that have the same effect. */
    private static void drawnByHand(int seed) {
        MeetingNets x = new MeetingNets();
        MeetingNets y = new MeetingNets();
        int start = Math.floorMod(seed, 15);
        for (int p = 0; p < start; p++) {
            x.come(p & 5 & (1 << p) - 1);
            y.come(p & 5 & (1 << p) - 1);
        }
        int n = 1 + Math.floorMod(seed, 60);
        int[] s = {seed * 7919};
        int done = 0;
        for (int k = 0; k < n; k++) {
            int kind = next(s, 6);
            int size = y.now(0);
            if (kind == 0) {
                done += size > 0 && y.go(next(s, size)) >= 0 ? 1 : 0;
            } else if (kind == 1) {
                int set = 0;
                for (int p = 0; p < size && size < 14; p++) {
                    set |= next(s, 3) == 0 ? 1 << p : 0;
                }
                done += y.come(set) >= 0 ? 1 : 0;
            } else if (size > 1) {
                int a = next(s, size);
                int b = next(s, size - 1);
                b += b >= a ? 1 : 0;
                if (y.tie(a, b) == 1) {
                    y.part(a, b);
                }
                done++;
            }
        }
        int acts = x.now(7);
        due("drawn(" + n + ", " + seed * 7919 + ")", x.drawn(n, seed * 7919), done);
        due("now(7)", x.now(7), Math.min(8, acts + (done > 0 ? 1 : 0)));
        due("now(0)", x.now(0), y.now(0));
        for (int p = 0; p < y.now(0); p++) {
            due("near(" + p + ")", x.near(p), y.near(p));
        }
        if (done > 0) {
            x.undo();
            due("now(0) behind undo()", x.now(0), start);
        }
    }

    private static int next(int[] s, int n) {
        s[0] = s[0] * 1103515245 + 12345;
        return (s[0] >>> 8) % n;
    }

    private static void undo() {
        MeetingNets x = new MeetingNets();
        due("undo()", x.undo(), NONE);
        x.come(0);
        x.come(1);
        x.come(3);
        x.part(0, 1);
        x.tie(0, 1);
        x.meet();
        x.back();
        x.go(0);
        due("now(7)", x.now(7), 8);
        x.tie(0, 0);
        x.part(0, 0);
        x.come(-1);
        x.go(9);
        x.drawn(0, 0);
        due("now(7)", x.now(7), 8);
        due("undo()", x.undo(), 7);
        due("now(0)", x.now(0), 3);
        due("undo()", x.undo(), 6);
        due("undo()", x.undo(), 5);
        due("now(1)", x.now(1), 3);
        due("undo()", x.undo(), 4);
        due("now(1)", x.now(1), 2);
        due("undo()", x.undo(), 3);
        due("now(1)", x.now(1), 3);
        due("undo()", x.undo(), 2);
        due("undo()", x.undo(), 1);
        due("undo()", x.undo(), 0);
        due("now(0)", x.now(0), 0);
        due("undo()", x.undo(), NONE);
        due("meet() of none", x.meet(), 0);
        due("back() of none", x.back(), 0);
        due("now(7)", x.now(7), 2);
        due("undo()", x.undo(), 1);
        eightAtMost();
    }

    private static void eightAtMost() {
        MeetingNets x = new MeetingNets();
        for (int k = 0; k < 12; k++) {
            x.come(0);
            due("now(7)", x.now(7), Math.min(8, k + 1));
        }
        for (int k = 7; k >= 0; k--) {
            due("undo()", x.undo(), k);
            due("now(0)", x.now(0), 4 + k);
        }
        due("undo()", x.undo(), NONE);
        due("now(0)", x.now(0), 4);
        // a drawn() of which nothing was done is no act: a net without points, and a deed that isn't a coming
        int seed = 0;
        MeetingNets y = new MeetingNets();
        while (y.drawn(1, seed) != 0) {
            y.undo();
            seed++;
        }
        due("now(7)", y.now(7), 0);
    }

    private static void image() {
        MeetingNets x = coming(0, 1);
        due("image(-1)", x.image(-1), false);
        due("image(2)", x.image(2), false);
        due("image(32)", x.image(32), false);
        due("restore(0)", x.restore(0), false);
        due("image(0)", x.image(0), true);
        due("now(7)", x.now(7), 2);
        x.come(3);
        due("image(1)", x.image(1), true);
        x.go(0);
        x.restore(0);
        due("now(0)", x.now(0), 2);
        x.restore(1);
        due("now(0)", x.now(0), 3);
        x.part(0, 1);
        x.image(0);
        x.tie(0, 1);
        x.restore(0);
        due("now(1)", x.now(1), 2);
        MeetingNets y = new MeetingNets();
        due("image(1) of none", y.image(1), true);
        y.come(0);
        due("restore(1) of none", y.restore(1), true);
        due("now(0)", y.now(0), 0);
    }

    private static void restore() {
        MeetingNets x = of(CLAW);
        x.image(0);
        x.tie(1, 2);
        x.feed(1, 2, 3, 4, 5);
        due("restore(1)", x.restore(1), false);
        due("restore(2)", x.restore(2), false);
        due("restore(-1)", x.restore(-1), false);
        due("now(7)", x.now(7), 1);
        due("restore(0)", x.restore(0), true);
        due("now(1)", x.now(1), 3);
        due("now(8)", x.now(8), 20);
        due("now(7)", x.now(7), 0);
        due("undo()", x.undo(), NONE);
        x.net();
        due("fault()", x.fault(), 1);
        due("restore(0)", x.restore(0), true);
        due("fault()", x.fault(), 1);
        x.go(0);
        due("restore(0) again", x.restore(0), true);
        due("now(0)", x.now(0), 4);
        put(x, "");
        x.net();
        due("restore(0) behind net()", x.restore(0), true);
        due("now(0)", x.now(0), 4);
    }
}
