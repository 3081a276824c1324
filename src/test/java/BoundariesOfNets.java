/** Each sentence of the document on what a net is, its covers, roots and pieces that names a boundary case. */
public final class BoundariesOfNets extends Sentences {
    /** Beineke's nine: the pieces there are, whatever the order of their points. */
    private static final int[][] NINE = {
        {0, 0, 0, 7}, {0, 0, 1, 7, 7}, {0, 0, 3, 7, 15}, {0, 0, 0, 1, 11, 13}, {0, 0, 1, 2, 7, 13},
        {0, 0, 1, 3, 6, 31}, {0, 0, 1, 2, 7, 27}, {0, 0, 1, 2, 7, 23}, {0, 0, 1, 2, 15, 31}};
    /** Two triangles on one line: all four points tied but 0 and 3. */
    private static final int[] DIAMOND = {0, 1, 3, 6};
    /** All six points tied but three pairs. */
    private static final int[] OCTAHEDRON = {0, 0, 3, 3, 15, 15};

    public static void main(String[] args) {
        BoundariesOfNets all = new BoundariesOfNets();
        all.counts();
        all.pointsAndLines();
        all.covers();
        all.firstCover();
        all.cliques();
        all.roots();
        all.rootLines();
        all.pieces();
        all.answersOfPieces();
        all.clawsAndTriangles();
        all.finish();
    }

    private void counts() {
        says("1: A NET without POINTS; an empty tape", () -> {
            MeetingNets x = new MeetingNets();
            for (int what = 0; what <= 8; what++) {
                due("now(" + what + ")", x.now(what), 0);
            }
        });
        says("6: 0 POINTS: none to 14", () -> {
            for (int n = 0; n <= 14; n++) {
                due("now(0)", untied(n).now(0), n);
            }
        });
        says("6: 1 LINES: none to 91", () -> {
            due("now(1) of untied", untied(14).now(1), 0);
            due("now(1) of one", untied(1).now(1), 0);
            due("now(1) of two", full(2).now(1), 1);
            due("now(1) of all tied", full(14).now(1), 91);
        });
        says("6: 2 PARTS (POINTS that LINES join are one)", () -> {
            due("now(2) of untied", untied(14).now(2), 14);
            due("now(2) of a path", path(14).now(2), 1);
            due("now(2) of all tied", full(14).now(2), 1);
            due("now(2)", coming(0, 0, 1, 2, 4, 8, 0).now(2), 3);
            // the last point alone joins those at either end
            due("now(2)", coming(0, 0, 1, 2, 12).now(2), 1);
            // a path that goes up and down: 13-0-12-1-11-2-10-3-9-4-8-5-7-6
            due("now(2)", coming(0, 0, 0, 0, 0, 0, 0, 96, 48, 24, 12, 6, 3, 1).now(2), 1);
        });
        says("6: 3 the most LINES of a POINT", () -> {
            due("now(3) of untied", untied(3).now(3), 0);
            due("now(3) of a star", star(14).now(3), 13);
            due("now(3) of a path", path(3).now(3), 2);
            due("now(3)", coming(0, 1, 0, 4, 12, 28).now(3), 3);
        });
        says("6: 4 TRIANGLES, 5 ODD ones, 6 CLAWS: none, and as many as there can be", () -> {
            MeetingNets x = star(14);
            due("now(4) of a star", x.now(4), 0);
            due("now(5) of a star", x.now(5), 0);
            due("now(6) of a star", x.now(6), 286);
            MeetingNets y = full(14);
            due("now(4) of all tied", y.now(4), 364);
            due("now(5) of all tied", y.now(5), 364);
            due("now(6) of all tied", y.now(6), 0);
            due("now(4) of three", full(3).now(4), 1);
            due("now(5) of three", full(3).now(5), 0);
            due("now(5) of a diamond", coming(DIAMOND).now(5), 0);
            due("now(4) of a diamond", coming(DIAMOND).now(4), 2);
            due("now(6) of three ends", star(4).now(6), 1);
            due("now(6) of two ends", star(3).now(6), 0);
        });
        says("6: 7 acts that can be undone: eight at most", () -> {
            MeetingNets x = new MeetingNets();
            for (int k = 1; k <= 10; k++) {
                x.come(0);
                due("now(7)", x.now(7), Math.min(k, 8));
            }
        });
        says("6: 8 bytes of the tape: none to 740", () -> {
            MeetingNets x = new MeetingNets();
            put(x, blanks(740));
            due("now(8)", x.now(8), 740);
            x.feed(0, 0, 0, 0, 0);
            due("now(8)", x.now(8), 740);
            x.end(0);
            due("now(8)", x.now(8), 0);
        });
        says("6: NONE for another what", () -> {
            for (int what : new int[] {-1, 9, 10, 100, MAX, MIN}) {
                due("now(" + what + ")", full(3).now(what), NONE);
                due("now(" + what + ") of none", new MeetingNets().now(what), NONE);
            }
        });
    }

    private void pointsAndLines() {
        says("Sets of POINTS are told as bits of an int: none, all", () -> {
            MeetingNets x = full(14);
            due("near(0)", x.near(0), (1 << 14) - 2);
            due("near(13)", x.near(13), (1 << 13) - 1);
            due("near(0) of untied", untied(14).near(0), 0);
        });
        says("7: NoSuchElementException: no such one", () -> {
            for (int n : new int[] {0, 1, 5, 14}) {
                MeetingNets x = full(n);
                for (int p : new int[] {n, n + 1, -1, 14, 32, MAX, MIN}) {
                    throwsNoSuch("near(" + p + ") of " + n, () -> x.near(p));
                }
                due("near(last) of " + n, n == 0 ? 0 : x.near(n - 1), n == 0 ? 0 : (1 << n - 1) - 1);
            }
        });
        says("8: its lesser POINT (0), the other one (1)", () -> {
            MeetingNets x = coming(0, 0, 3);
            x.tie(1, 0);
            due("line(0, 0)", x.line(0, 0), 0);
            due("line(0, 1)", x.line(0, 1), 1);
            due("line(2, 0)", x.line(2, 0), 1);
            due("line(2, 1)", x.line(2, 1), 2);
            MeetingNets y = full(14);
            due("line(90, 0)", y.line(90, 0), 12);
            due("line(90, 1)", y.line(90, 1), 13);
        });
        says("8: NoSuchElementException: no such LINE", () -> {
            for (int n : new int[] {0, 1, 2, 3, 14}) {
                MeetingNets x = full(n);
                int lines = n * (n - 1) / 2;
                for (int l : new int[] {lines, lines + 1, -1, MAX, MIN}) {
                    throwsNoSuch("line(" + l + ", 0) of " + n, () -> x.line(l, 0));
                    throwsNoSuch("line(" + l + ", 1) of " + n, () -> x.line(l, 1));
                }
            }
        });
        says("8: NoSuchElementException: no such what", () -> {
            for (int what : new int[] {2, 3, -1, MAX, MIN}) {
                throwsNoSuch("line(0, " + what + ")", () -> full(3).line(0, what));
            }
        });
        says("A call that throws changes nothing", () -> {
            MeetingNets x = star(4);
            x.tie(1, 2);
            x.part(1, 2);
            x.feed(0, 0, 0, 0, 0);
            dueUnchanged("near(4)", x, () -> throwsNoSuch("near(4)", () -> x.near(4)));
            dueUnchanged("line(3, 0)", x, () -> throwsNoSuch("line(3, 0)", () -> x.line(3, 0)));
            dueUnchanged("line(0, 2)", x, () -> throwsNoSuch("line(0, 2)", () -> x.line(0, 2)));
            dueUnchanged("rootLine(0, 0)", x, () -> throwsNoSuch("rootLine(0, 0)", () -> x.rootLine(0, 0)));
            due("piece()", x.piece(), 15);
            due("undo()", x.undo(), 5);
            dueNet("undone", x, 0, 1, 3, 1);
            dueUnchanged("rootLine(4, 0)", x, () -> throwsNoSuch("rootLine(4, 0)", () -> x.rootLine(4, 0)));
            due("covers()", x.covers(), 1);
        });
    }

    private void covers() {
        says("A CLIQUE is a set of two POINTS or more: a POINT alone is none", () -> {
            due("cliques() of a point", untied(1).cliques(), 0);
            due("cliques() of 14 untied", untied(14).cliques(), 0);
            due("covers() of 14 untied", untied(14).covers(), 1);
            due("cliques() of two", full(2).cliques(), 1);
            due("clique(0) of two", full(2).clique(0), 3);
            due("covers() of two", full(2).covers(), 1);
        });
        says("A CLIQUE: each two of them TIED", () -> {
            due("cliques() of a path of three", path(3).cliques(), 2);
            due("cliques() of a ring of four", ring(4).cliques(), 4);
            due("clique(2) of a diamond", coming(DIAMOND).clique(2), set(1, 2, 3));
        });
        says("each two TIED POINTS are in just one of them together", () -> {
            // one clique of all, and none of three beside it
            due("covers() of four", full(4).covers(), 1);
            due("cliques() of four", full(4).cliques(), 1);
            due("covers() of a triangle", full(3).covers(), 2);
            due("covers() of five tied but one pair", coming(0, 1, 3, 7, 7).covers(), 0);
        });
        says("and each POINT is in two of them at most", () -> {
            due("covers() of two ends", star(3).covers(), 1);
            due("covers() of three ends", star(4).covers(), 0);
            due("covers() of a triangle and an end", coming(0, 1, 3, 1).covers(), 1);
            due("covers() of a triangle and two ends at one point", coming(0, 1, 3, 1, 1).covers(), 0);
            due("covers() of a triangle and an end at each", coming(0, 1, 3, 1, 2, 4).covers(), 1);
            due("covers() of two triangles at one point", coming(0, 1, 3, 1, 9).covers(), 1);
            due("covers() of three triangles at one point", coming(0, 1, 3, 1, 9, 1, 33).covers(), 0);
        });
        says("13: How many COVERS there are: none; one of a NET without LINES", () -> {
            for (int[] piece : NINE) {
                due("covers() of a piece", coming(piece).covers(), 0);
            }
            due("covers() of none", new MeetingNets().covers(), 1);
            due("covers() of a point", untied(1).covers(), 1);
        });
        says("13: (999, if there are more): of 14 POINTS there are 16 at most, of four triangles", () -> {
            due("covers() of four triangles", coming(0, 1, 3, 0, 8, 24, 0, 64, 192, 0, 512, 1536).covers(), 16);
            due("and two points more", coming(0, 1, 3, 0, 8, 24, 0, 64, 192, 0, 512, 1536, 0, 4096).covers(), 16);
            due("covers() of two diamonds", coming(0, 1, 3, 6, 0, 16, 48, 96).covers(), 4);
            due("covers() of an octahedron", coming(OCTAHEDRON).covers(), 2);
            due("covers() of a wheel of four", coming(0, 1, 2, 5, 15).covers(), 2);
        });
    }

    private void firstCover() {
        says("the CLIQUE of the first LINE first, then that of the first LINE that is in none of those ahead", () -> {
            // a triangle 1, 4, 5 whose points have ends 0, 2, 3
            dueCliques(coming(0, 1, 0, 0, 6, 26), set(0, 1), set(1, 4, 5), set(2, 4), set(3, 5));
            dueCliques(ring(5), set(0, 1), set(0, 4), set(1, 2), set(2, 3), set(3, 4));
            dueCliques(coming(0, 0, 0, 0, 3, 12), set(0, 4), set(1, 4), set(2, 5), set(3, 5));
        });
        says("Of all COVERS the first: the least number of the first CLIQUE", () -> {
            dueCliques(full(3), 3, 5, 6);
            dueCliques(coming(DIAMOND), set(0, 1), set(0, 2), set(1, 2, 3));
            dueCliques(coming(OCTAHEDRON), set(0, 2, 4), set(0, 3, 5), set(1, 2, 5), set(1, 3, 4));
        });
        says("Of all COVERS the first: CLIQUE by CLIQUE, a later one too", () -> {
            dueCliques(coming(0, 1, 0, 4, 12), set(0, 1), set(2, 3), set(2, 4), set(3, 4));
            dueCliques(coming(0, 1, 3, 0, 8, 24), 3, 5, 6, 3 << 3, 5 << 3, 6 << 3);
        });
        says("the least number: of the highest POINT, whatever the lines' order", () -> {
            // a diamond of 0, 1, 2, 3 without 0-1: the first line is 0-2
            dueCliques(coming(0, 0, 3, 7), set(0, 2), set(0, 3), set(1, 2, 3));
            // without 2-3: 0-1 with either
            dueCliques(coming(0, 1, 3, 3), set(0, 1, 2), set(0, 3), set(1, 3));
            // a wheel of four: 4 in the middle of 0, 1, 2, 3
            dueCliques(coming(0, 1, 2, 5, 15), set(0, 1), set(0, 3, 4), set(1, 2, 4), set(2, 3));
        });
    }

    private void dueCliques(MeetingNets x, int... cliques) {
        due("cliques()", x.cliques(), cliques.length);
        for (int k = 0; k < cliques.length; k++) {
            due("clique(" + k + ")", x.clique(k), cliques[k]);
        }
        due("clique behind the last", x.clique(cliques.length), NONE);
    }

    private void cliques() {
        says("14: NONE: there is none", () -> {
            for (int[] piece : NINE) {
                due("cliques() of a piece", coming(piece).cliques(), NONE);
            }
            due("cliques() of a star", star(14).cliques(), NONE);
            due("cliques() of a claw and a point", coming(0, 1, 1, 1, 0).cliques(), NONE);
        });
        says("14: CLIQUES of the first COVER: none of a NET without LINES", () -> {
            due("cliques() of none", new MeetingNets().cliques(), 0);
            due("cliques() of untied", untied(3).cliques(), 0);
        });
        says("14: CLIQUES of the first COVER: as many as POINTS at most", () -> {
            due("cliques() of a ring of 14", ring(14).cliques(), 14);
            due("clique(13)", ring(14).clique(13), set(12, 13));
            due("cliques() of 14", full(14).cliques(), 1);
        });
        says("15: The k-th (from 0) of them", () -> {
            due("clique(0)", path(3).clique(0), 3);
            due("clique(1)", path(3).clique(1), 6);
            due("clique(0) of 14", full(14).clique(0), (1 << 14) - 1);
        });
        says("15: NONE: none such", () -> {
            for (int k : new int[] {2, 3, 14, -1, MAX, MIN}) {
                due("clique(" + k + ")", path(3).clique(k), NONE);
            }
            due("clique(14) of a ring", ring(14).clique(14), NONE);
            due("clique(0) of none", new MeetingNets().clique(0), NONE);
            due("clique(0) of a point", untied(1).clique(0), NONE);
            due("clique(0) of a claw", star(4).clique(0), NONE);
            // the search of a net without a cover takes cliques, and gives them up
            due("clique(0)", coming(0, 1, 0, 4, 4, 4).clique(0), NONE);
        });
    }

    private void roots() {
        says("ROOT: for each POINT that is in one CLIQUE alone one, in none two more; in two none", () -> {
            due("root(0) of a point", untied(1).root(0), 2);
            due("root(0) of two", full(2).root(0), 3);
            due("root(0) of two untied", untied(2).root(0), 4);
            due("root(0) of a triangle", full(3).root(0), 3);
            due("root(0) of a path", path(3).root(0), 4);
            due("root(0) of four", full(4).root(0), 5);
            due("root(0) of a ring", ring(14).root(0), 14);
            due("root(0) of 14 tied", full(14).root(0), 15);
            due("root(0) of 14 untied", untied(14).root(0), 28);
        });
        says("16: 1 the most lines at one", () -> {
            due("root(1) of none", new MeetingNets().root(1), 0);
            due("root(1) of a point", untied(1).root(1), 1);
            due("root(1) of 14 untied", untied(14).root(1), 1);
            due("root(1) of two", full(2).root(1), 2);
            due("root(1) of a triangle", full(3).root(1), 2);
            due("root(1) of four", full(4).root(1), 4);
            due("root(1) of 14 tied", full(14).root(1), 14);
            // the greatest clique is the last one
            due("root(1)", coming(0, 1, 0, 4, 12, 28).root(1), 4);
            // and the first one
            due("root(1)", coming(0, 1, 3, 7, 8).root(1), 4);
        });
        says("16: 2 PARTS of it", () -> {
            due("root(2) of none", new MeetingNets().root(2), 0);
            due("root(2) of a point", untied(1).root(2), 1);
            due("root(2) of 14 untied", untied(14).root(2), 14);
            due("root(2) of 14 tied", full(14).root(2), 1);
            due("root(2)", coming(0, 1, 0, 4, 0).root(2), 3);
        });
        says("16: 0 its points, of a NET without POINTS: none", () -> due("root(0)", new MeetingNets().root(0), 0));
        says("16: NONE: there is no COVER", () -> {
            for (int what = -1; what <= 3; what++) {
                due("root(" + what + ") of a claw", star(4).root(what), NONE);
                due("root(" + what + ") of a piece", coming(NINE[8]).root(what), NONE);
            }
        });
        says("16: NONE: another what", () -> {
            for (int what : new int[] {-1, 3, 4, MAX, MIN}) {
                due("root(" + what + ")", full(3).root(what), NONE);
                due("root(" + what + ") of none", new MeetingNets().root(what), NONE);
            }
        });
    }

    private void rootLines() {
        says("a point for each CLIQUE (in the COVER's order), then those of POINTS (by POINTS)", () -> {
            // 0 is in one clique, 1 in none, 2 in two, 3 in one, 4 in two
            dueRootLines(coming(0, 0, 1, 0, 12), new int[][] {{0, 3}, {4, 5}, {0, 1}, {2, 6}, {1, 2}});
            // 3 is in none, too
            dueRootLines(coming(0, 0, 1, 0, 4), new int[][] {{0, 2}, {3, 4}, {0, 1}, {5, 6}, {1, 7}});
            dueRootLines(untied(3), new int[][] {{0, 1}, {2, 3}, {4, 5}});
        });
        says("17: the lesser (0), the other one (1)", () -> {
            MeetingNets x = ring(4);
            int[][] ends = {{0, 1}, {0, 2}, {2, 3}, {1, 3}};
            for (int p = 0; p < 4; p++) {
                due("rootLine(" + p + ", 0)", x.rootLine(p, 0), ends[p][0]);
                due("rootLine(" + p + ", 1)", x.rootLine(p, 1), ends[p][1]);
            }
            due("rootLine(13, 0)", untied(14).rootLine(13, 0), 26);
            due("rootLine(13, 1)", untied(14).rootLine(13, 1), 27);
        });
        says("17: NoSuchElementException: there is no COVER", () -> {
            for (int[] piece : NINE) {
                throwsNoSuch("rootLine(0, 0)", () -> coming(piece).rootLine(0, 0));
                throwsNoSuch("rootLine(3, 1)", () -> coming(piece).rootLine(3, 1));
            }
        });
        says("17: NoSuchElementException: no such POINT", () -> {
            for (int p : new int[] {3, 4, -1, 14, 32, MAX, MIN}) {
                throwsNoSuch("rootLine(" + p + ", 0)", () -> full(3).rootLine(p, 0));
                throwsNoSuch("rootLine(" + p + ", 1)", () -> full(3).rootLine(p, 1));
            }
            throwsNoSuch("rootLine(0, 0) of none", () -> new MeetingNets().rootLine(0, 0));
            throwsNoSuch("rootLine(14, 0) of 14", () -> untied(14).rootLine(14, 0));
        });
        says("17: NoSuchElementException: no such what", () -> {
            for (int what : new int[] {2, 3, -1, MAX, MIN}) {
                throwsNoSuch("rootLine(0, " + what + ")", () -> full(3).rootLine(0, what));
            }
        });
    }

    private void dueRootLines(MeetingNets x, int[][] ends) {
        for (int p = 0; p < ends.length; p++) {
            due("rootLine(" + p + ", 0)", x.rootLine(p, 0), ends[p][0]);
            due("rootLine(" + p + ", 1)", x.rootLine(p, 1), ends[p][1]);
        }
    }

    private void pieces() {
        says("PIECE: a set of POINTS that by itself has no COVER, but has one without any one of its POINTS", () -> {
            for (int[] piece : NINE) {
                MeetingNets x = coming(piece);
                int all = (1 << piece.length) - 1;
                due("piece()", x.piece(), all);
                due("pieces()", x.pieces(), 1);
                for (int p = 0; p < piece.length; p++) {
                    due("blamed(" + p + ")", x.blamed(p), 1);
                    due("may(0) without one of it", without(piece, p).may(0), 1);
                }
            }
        });
        says("PIECE: by itself (with the LINES between them): in a greater NET, at its end, tied to others too", () -> {
            for (int[] piece : NINE) {
                MeetingNets x = untied(14 - piece.length);
                for (int set : piece) {
                    x.come(set << 14 - piece.length);
                }
                due("piece()", x.piece(), (1 << 14) - (1 << 14 - piece.length));
                due("pieces()", x.pieces(), 1);
            }
            // the odd triangles of five tied but one pair are even among the four of a diamond
            due("pieces()", coming(0, 1, 3, 7, 7).pieces(), 1);
        });
        says("PIECE: a set that has one within is none", () -> {
            due("pieces() of a claw and a point", coming(0, 1, 1, 1, 0).pieces(), 1);
            due("pieces() of a claw with a tail", coming(0, 1, 1, 1, 8).pieces(), 1);
            due("piece() of a claw with a tail", coming(0, 1, 1, 1, 8).piece(), 15);
        });
    }

    private void duePieces(MeetingNets x, int least, int many, int[] blames) {
        due("piece()", x.piece(), least);
        due("pieces()", x.pieces(), many);
        for (int p = 0; p < blames.length; p++) {
            due("blamed(" + p + ")", x.blamed(p), blames[p]);
        }
    }

    /** The net of a piece less one of its points. */
    private static MeetingNets without(int[] piece, int p) {
        MeetingNets x = coming(piece);
        x.go(p);
        return x;
    }

    private void answersOfPieces() {
        says("18: 0: there is none", () -> {
            due("piece() of none", new MeetingNets().piece(), 0);
            due("piece() of 14 tied", full(14).piece(), 0);
            due("piece() of 14 untied", untied(14).piece(), 0);
            due("piece() of an octahedron", coming(OCTAHEDRON).piece(), 0);
            due("piece() of two ends", star(3).piece(), 0);
        });
        says("18, 19, 20: of the NET as it is now", () -> {
            MeetingNets x = star(5);
            duePieces(x, 15, 4, new int[] {4, 3, 3, 3, 3});
            x.tie(1, 2);
            duePieces(x, set(0, 1, 3, 4), 2, new int[] {2, 1, 1, 2, 2});
            x.tie(3, 4);
            duePieces(x, 0, 0, new int[] {0, 0, 0, 0, 0});
            x.undo();
            x.part(0, 1);
            duePieces(x, set(0, 2, 3, 4), 1, new int[] {1, 0, 1, 1, 1});
        });
        says("18: The least PIECE: the fewest POINTS", () -> {
            // five tied but one pair, then a claw behind them; six of a wheel, then five; six, then a claw
            due("piece()", coming(0, 1, 3, 7, 7, 0, 32, 32, 32).piece(), 15 << 5);
            due("piece()", coming(0, 1, 2, 4, 9, 31, 0, 64, 192, 448, 448).piece(), 31 << 6);
            due("piece()", coming(0, 1, 2, 4, 9, 31, 0, 64, 64, 64).piece(), 15 << 6);
        });
        says("18: then the least number", () -> {
            due("piece() of a star", star(14).piece(), 15);
            due("piece()", coming(0, 0, 0, 7, 7).piece(), 15);
            due("piece() of two claws", coming(0, 1, 1, 1, 0, 16, 16, 16).piece(), 15);
            // the one with the greater number has the lesser first point
            due("piece()", coming(0, 0, 2, 2, 2, 1, 1, 1).piece(), set(1, 2, 3, 4));
        });
        says("19: How many PIECES there are: none", () -> {
            due("pieces() of none", new MeetingNets().pieces(), 0);
            due("pieces() of 14 tied", full(14).pieces(), 0);
            due("pieces() of 14 untied", untied(14).pieces(), 0);
            due("pieces() of a ring", ring(14).pieces(), 0);
        });
        says("19: How many PIECES there are: many", () -> {
            due("pieces() of a star", star(14).pieces(), 286);
            // seven and seven, each of either side tied to each of the other: 14 times the threes of seven
            MeetingNets x = untied(7);
            for (int k = 0; k < 7; k++) {
                x.come(127);
            }
            due("pieces()", x.pieces(), 14 * 35);
            due("blamed(0)", x.blamed(0), 35 + 7 * 15);
        });
        says("20: How many PIECES a POINT is in: none", () -> {
            due("blamed(4)", coming(0, 1, 1, 1, 0).blamed(4), 0);
            due("blamed(13) of 14 tied", full(14).blamed(13), 0);
            due("blamed(0) of a star", star(14).blamed(0), 286);
            due("blamed(13) of a star", star(14).blamed(13), 66);
        });
        says("20: NONE: no such one", () -> {
            for (int p : new int[] {4, 5, -1, 14, 32, MAX, MIN}) {
                due("blamed(" + p + ")", star(4).blamed(p), NONE);
                due("blamed(" + p + ") with a cover", full(4).blamed(p), NONE);
            }
            due("blamed(0) of none", new MeetingNets().blamed(0), NONE);
            due("blamed(14)", star(14).blamed(14), NONE);
            MeetingNets x = star(5);
            due("blamed(4)", x.blamed(4), 3);
            x.go(4);
            due("blamed(4) when it went", x.blamed(4), NONE);
        });
    }

    private void clawsAndTriangles() {
        says("CLAW: four POINTS, one TIED to the three others, these not to one another", () -> {
            due("now(6) of a claw", star(4).now(6), 1);
            due("now(6) with two of the ends tied", coming(0, 1, 3, 1).now(6), 0);
            due("now(6) of three untied and one", coming(0, 1, 1, 0).now(6), 0);
            // the heart may be any of the four
            due("now(6) at 1", coming(0, 1, 2, 2).now(6), 1);
            due("now(6) at 3", coming(0, 0, 0, 7).now(6), 1);
            due("claw() at 1", coming(0, 1, 2, 2).claw(), 15);
            due("claw() at 2", coming(0, 0, 3, 4).claw(), 15);
            due("claw() at 3", coming(0, 0, 0, 7).claw(), 15);
        });
        says("22: The CLAW of the least number as a set", () -> {
            due("claw() of a star", star(14).claw(), 15);
            // that at point 0 has the greater number
            due("claw()", coming(0, 0, 2, 2, 2, 1, 1, 1).claw(), set(1, 2, 3, 4));
            due("claw()", coming(0, 1, 2, 2, 1, 1).claw(), set(0, 1, 2, 3));
            // 0 with three of 4 to 13
            MeetingNets x = coming(0, 0, 0, 0, 1, 1, 1, 1, 1, 1, 1, 1, 1, 1);
            due("claw()", x.claw(), set(0, 4, 5, 6));
            due("claw() at the end", coming(0, 0, 0, 0, 0, 0, 0, 0, 0, 0, 0, 1024, 1024, 1024).claw(), 15 << 10);
        });
        says("22: 0: there is none", () -> {
            due("claw() of none", new MeetingNets().claw(), 0);
            due("claw() of 14 tied", full(14).claw(), 0);
            due("claw() of 14 untied", untied(14).claw(), 0);
            due("claw() of two ends", star(3).claw(), 0);
            for (int k = 1; k < NINE.length; k++) {
                due("claw() of another piece", coming(NINE[k]).claw(), 0);
            }
        });
        says("TRIANGLE: ODD, if some other POINT is TIED to an odd number of them: one, three", () -> {
            due("odd() with one at an end", coming(0, 1, 3, 1).odd(0, 1, 2), 1);
            due("odd() with one at all three", full(4).odd(0, 1, 2), 1);
            // one is tied to two of them, the next one to a single one
            due("odd()", coming(0, 1, 3, 3, 4).odd(0, 1, 2), 1);
            due("odd() with the last of 14", coming(0, 1, 3, 0, 0, 0, 0, 0, 0, 0, 0, 0, 0, 2).odd(0, 1, 2), 1);
            due("odd() at the end", coming(0, 0, 0, 0, 0, 0, 0, 0, 0, 0, 0, 1024, 3072, 4096).odd(10, 11, 12), 1);
        });
        says("TRIANGLE: else EVEN: none, two", () -> {
            due("odd() of three", full(3).odd(0, 1, 2), 0);
            due("odd() with one beside", coming(0, 1, 3, 0).odd(0, 1, 2), 0);
            due("odd() with one at two", coming(0, 1, 3, 3).odd(0, 1, 2), 0);
            due("odd() with two at two", coming(0, 1, 3, 3, 6).odd(0, 1, 2), 0);
            // they may be tied to one another
            due("odd() with two at two", coming(0, 1, 3, 3, 14).odd(0, 1, 2), 0);
        });
        says("21: in whatever order", () -> {
            int[][] orders = {{0, 1, 2}, {0, 2, 1}, {1, 0, 2}, {1, 2, 0}, {2, 0, 1}, {2, 1, 0}};
            for (int[] o : orders) {
                due("odd()", coming(0, 1, 3, 1).odd(o[0], o[1], o[2]), 1);
                due("odd() of three", full(3).odd(o[0], o[1], o[2]), 0);
                due("odd() of a path", path(3).odd(o[0], o[1], o[2]), NONE);
            }
        });
        says("21: NONE: they are none: not each two TIED", () -> {
            due("odd() of untied", untied(3).odd(0, 1, 2), NONE);
            due("odd() with one line", coming(0, 1, 0).odd(0, 1, 2), NONE);
            due("odd() with two lines", coming(0, 1, 1).odd(0, 1, 2), NONE);
            due("odd() with two lines", coming(0, 0, 3).odd(0, 1, 2), NONE);
            due("odd() with two lines", coming(0, 1, 2).odd(0, 1, 2), NONE);
        });
        says("21: NONE: they are none: one told twice, no such POINTS", () -> {
            int[][] none = {{0, 0, 1}, {0, 1, 0}, {1, 0, 0}, {0, 0, 0}, {0, 1, 4}, {0, 4, 1}, {4, 0, 1}, {-1, 0, 1},
                {0, -1, 1}, {0, 1, -1}, {0, 1, 14}, {0, 1, 32}, {32, 33, 34}, {0, 1, 34}, {MAX, MIN, 0}};
            for (int[] o : none) {
                due("odd(" + o[0] + ", " + o[1] + ", " + o[2] + ")", full(4).odd(o[0], o[1], o[2]), NONE);
            }
            due("odd() of none", new MeetingNets().odd(0, 1, 2), NONE);
            due("odd() of 14", full(14).odd(12, 13, 14), NONE);
            due("odd() of 14", full(14).odd(11, 12, 13), 1);
        });
    }
}
