/** Each sentence of the document on acts, deeds, images and what would mend a net that names a boundary case. */
public final class BoundariesOfActs extends Sentences {
    public static void main(String[] args) {
        BoundariesOfActs all = new BoundariesOfActs();
        all.ties();
        all.comingAndGoing();
        all.meeting();
        all.goingBack();
        all.mending();
        all.mays();
        all.colours();
        all.choices();
        all.drawn();
        all.drawnGoing();
        all.drawnComing();
        all.drawnTies();
        all.undo();
        all.images();
        all.calls();
        all.finish();
    }

    private void ties() {
        says("9: Two POINTS are TIED: 0; 1: they are", () -> {
            MeetingNets x = untied(14);
            due("tie(13, 0)", x.tie(13, 0), 0);
            due("near(0)", x.near(0), 1 << 13);
            due("near(13)", x.near(13), 1);
            dueUnchanged("tie(13, 0)", x, () -> due("tie(13, 0)", x.tie(13, 0), 1));
            dueUnchanged("tie(0, 13)", x, () -> due("tie(0, 13)", x.tie(0, 13), 1));
        });
        says("9: NONE: no such ones", () -> {
            for (int p : new int[] {3, 4, -1, 14, 32, 33, MAX, MIN}) {
                MeetingNets x = untied(3);
                dueUnchanged("tie", x, () -> due("tie(0, " + p + ")", x.tie(0, p), NONE));
                dueUnchanged("tie", x, () -> due("tie(" + p + ", 0)", x.tie(p, 0), NONE));
            }
            due("tie(0, 1) of none", new MeetingNets().tie(0, 1), NONE);
            due("tie(13, 14) of 14", untied(14).tie(13, 14), NONE);
        });
        says("9: NONE: one alone", () -> {
            MeetingNets x = untied(14);
            for (int p = 0; p < 14; p++) {
                due("tie(" + p + ", " + p + ")", x.tie(p, p), NONE);
                due("near(" + p + ")", x.near(p), 0);
            }
        });
        says("10: They are PARTED: 0; 1: they are not TIED", () -> {
            MeetingNets x = full(14);
            due("part(13, 0)", x.part(13, 0), 0);
            due("near(0)", x.near(0), (1 << 13) - 2);
            due("near(13)", x.near(13), (1 << 13) - 2);
            dueUnchanged("part(13, 0)", x, () -> due("part(13, 0)", x.part(13, 0), 1));
            dueUnchanged("part(0, 13)", x, () -> due("part(0, 13)", x.part(0, 13), 1));
        });
        says("10: NONE: likewise", () -> {
            for (int p : new int[] {3, 4, -1, 14, 32, 33, MAX, MIN}) {
                MeetingNets x = full(3);
                dueUnchanged("part", x, () -> due("part(0, " + p + ")", x.part(0, p), NONE));
                dueUnchanged("part", x, () -> due("part(" + p + ", 0)", x.part(p, 0), NONE));
            }
            MeetingNets y = full(14);
            for (int p = 0; p < 14; p++) {
                due("part(" + p + ", " + p + ")", y.part(p, p), NONE);
            }
            due("part(0, 1) of none", new MeetingNets().part(0, 1), NONE);
            due("part(13, 14) of 14", y.part(13, 14), NONE);
            due("now(1)", y.now(1), 91);
        });
    }

    private void comingAndGoing() {
        says("A POINT COMES: behind all others, TIED to those of a set: none, all", () -> {
            MeetingNets x = new MeetingNets();
            due("come(0)", x.come(0), 0);
            due("come(1)", x.come(1), 1);
            due("come(0)", x.come(0), 2);
            due("come(7)", x.come(7), 3);
            due("come(4)", x.come(4), 4);
            dueNet("coming", x, 0, 1, 0, 7, 4);
        });
        says("11: NONE: there are 14", () -> {
            MeetingNets x = untied(13);
            due("come() as the 14th", x.come((1 << 13) - 1), 13);
            dueUnchanged("come(0)", x, () -> due("come(0)", x.come(0), NONE));
            dueUnchanged("come(1)", x, () -> due("come(1)", x.come(1), NONE));
            x.go(0);
            due("come(0) when one went", x.come(0), 13);
        });
        says("11: NONE: no such set", () -> {
            for (int n = 0; n < 14; n++) {
                MeetingNets x = untied(n);
                for (int set : new int[] {1 << n, 1 << n | 1, -1, MIN, MAX, 1 << 30, MIN | 1}) {
                    due("come(" + set + ") at " + n, x.come(set), NONE);
                }
                due("now(0)", x.now(0), n);
                due("now(7)", x.now(7), Math.min(n, 8));
            }
        });
        says("A POINT GOES: with its LINES; those behind it are one less", () -> {
            MeetingNets x = coming(0, 1, 2, 4, 9);
            due("go(2)", x.go(2), 4);
            dueNet("the middle one went", x, 0, 1, 0, 5);
            due("go(0)", x.go(0), 3);
            dueNet("the first one went", x, 0, 0, 2);
            due("go(2)", x.go(2), 2);
            dueNet("the last one went", x, 0, 0);
            MeetingNets y = full(14);
            due("go(0)", y.go(0), 13);
            due("near(12)", y.near(12), (1 << 12) - 1);
        });
        says("12: how many are left: none, too", () -> {
            MeetingNets x = full(2);
            due("go(1)", x.go(1), 1);
            due("near(0)", x.near(0), 0);
            due("go(0)", x.go(0), 0);
            due("now(0)", x.now(0), 0);
        });
        says("12: NONE: no such one", () -> {
            for (int p : new int[] {3, 4, -1, 14, 32, MAX, MIN}) {
                MeetingNets x = full(3);
                dueUnchanged("go", x, () -> due("go(" + p + ")", x.go(p), NONE));
            }
            due("go(0) of none", new MeetingNets().go(0), NONE);
            due("go(14) of 14", full(14).go(14), NONE);
        });
    }

    private void meeting() {
        says("To MEET: a POINT for each LINE (in order), TIED if both LINES have a POINT in common", () -> {
            // its lines: 0-1, 0-3, 1-2, 1-3, 2-3
            MeetingNets x = coming(0, 1, 2, 7);
            due("meet()", x.meet(), 5);
            dueNet("a diamond met", x, 0, 1, 1, 7, 14);
            MeetingNets y = path(4);
            due("meet()", y.meet(), 3);
            due("meet() again", y.meet(), 2);
            dueNet("a path met twice", y, 0, 1);
        });
        says("23: how many POINTS: none of a NET without LINES", () -> {
            due("meet() of none", new MeetingNets().meet(), 0);
            MeetingNets x = untied(14);
            due("meet() of untied", x.meet(), 0);
            due("now(0)", x.now(0), 0);
            MeetingNets y = full(2);
            due("meet() of two", y.meet(), 1);
            dueNet("one", y, 0);
        });
        says("23: NONE: there are more than 14 LINES", () -> {
            MeetingNets x = full(6);
            dueUnchanged("meet()", x, () -> due("meet() of 15 lines", x.meet(), NONE));
            x.part(0, 5);
            due("meet() of 14 lines", x.meet(), 14);
            due("now(0)", x.now(0), 14);
            MeetingNets y = full(14);
            dueUnchanged("meet()", y, () -> due("meet() of 91 lines", y.meet(), NONE));
            due("meet() of a ring of 14", ring(14).meet(), 14);
            MeetingNets z = star(14);
            z.tie(1, 2);
            due("meet() of 14 lines", z.meet(), 14);
            MeetingNets w = star(14);
            w.tie(1, 2);
            w.tie(3, 4);
            due("meet() of 15 lines", w.meet(), NONE);
        });
    }

    private void goingBack() {
        says("To GO BACK: it becomes the ROOT by its first COVER: POINTS as told there, LINES as its lines", () -> {
            MeetingNets x = full(3);
            due("back() of a triangle", x.back(), 3);
            dueNet("three lines, not one clique", x, 0, 1, 3);
            MeetingNets y = coming(0, 0, 1, 0, 4);
            due("back()", y.back(), 8);
            // cliques 0-2 and 2-4, then of 0, twice of 1, twice of 3, of 4
            dueNet("back", y, 0, 1, 1, 0, 8, 0, 32, 2);
        });
        says("LINES as its lines (no two of these join the same points)", () -> {
            for (MeetingNets x : new MeetingNets[] {full(13), full(3), ring(4), ring(14), path(13), coming(0, 1, 3, 6),
                coming(0, 0, 3, 3, 15, 15), coming(0, 1, 2, 5, 15), untied(7)}) {
                int points = x.now(0);
                x.back();
                due("now(1) behind back()", x.now(1), points);
                due("meet() behind back()", x.meet(), points);
            }
        });
        says("24: how many POINTS: none of a NET without them", () -> {
            due("back() of none", new MeetingNets().back(), 0);
            due("back() of a point", untied(1).back(), 2);
        });
        says("24: NONE: no COVER", () -> {
            MeetingNets x = star(4);
            dueUnchanged("back()", x, () -> due("back() of a claw", x.back(), NONE));
            MeetingNets y = coming(0, 1, 3, 7, 7);
            dueUnchanged("back()", y, () -> due("back()", y.back(), NONE));
        });
        says("24: NONE: ROOT has more than 14 points", () -> {
            due("back() to 14", untied(7).back(), 14);
            MeetingNets x = untied(8);
            dueUnchanged("back()", x, () -> due("back() to 16", x.back(), NONE));
            MeetingNets y = coming(0, 1, 0, 0, 0, 0, 0, 0);
            dueUnchanged("back()", y, () -> due("back() to 15", y.back(), NONE));
            due("back() to 14", path(13).back(), 14);
            due("back() to 15", path(14).back(), NONE);
            due("back() to 14", ring(14).back(), 14);
            due("back() to 14", full(13).back(), 14);
            due("back() to 15", full(14).back(), NONE);
        });
        says("25: How often one could GO BACK, one behind the other: never", () -> {
            due("depth() of a claw", star(4).depth(), 0);
            due("depth() to 15", full(14).depth(), 0);
            due("depth() to 16", untied(8).depth(), 0);
        });
        says("25: one behind the other: till there is no COVER, or ROOT has more than 14 points", () -> {
            due("depth() of four tied", full(4).depth(), 1);
            due("depth() of a diamond", coming(0, 1, 3, 6).depth(), 2);
            due("depth() of seven untied", untied(7).depth(), 1);
            due("depth() of three untied", untied(3).depth(), 3);
            for (int n = 1; n <= 14; n++) {
                due("depth() of a path of " + n, path(n).depth(), 14 - n);
            }
        });
        says("25: (20 at most)", () -> {
            due("depth() of none", new MeetingNets().depth(), 20);
            for (int n = 3; n <= 14; n++) {
                due("depth() of a ring of " + n, ring(n).depth(), 20);
            }
        });
        says("25: one could: nothing is done", () -> {
            MeetingNets x = path(3);
            dueUnchanged("depth()", x, () -> due("depth()", x.depth(), 11));
            due("clique(1)", x.clique(1), 6);
        });
    }

    private void mending() {
        says("26: MENDINGS: how many (0): none, one, all pairs", () -> {
            due("mending(0) of a star", star(6).mending(0), 0);
            due("mending(0) of two claws", coming(0, 1, 1, 1, 0, 16, 16, 16).mending(0), 0);
            due("mending(0)", coming(0, 0, 2, 0, 7, 3, 44).mending(0), 1);
            due("mending(0) of a claw", star(4).mending(0), 6);
        });
        says("MENDING: a pair by whose being TIED or PARTED (the other way round) alone: by being TIED", () -> {
            dueMending(coming(0, 1, 2, 1, 3, 3), 1, 4, 5);
            dueMending(coming(0, 1, 3, 2, 1, 7, 7), 1, 5, 6);
            dueMending(coming(0, 0, 3, 7, 4, 8), 1, 0, 1);
        });
        says("MENDING: a pair by whose being TIED or PARTED (the other way round) alone: by being PARTED", () -> {
            dueMending(coming(0, 1, 1, 1, 6, 2), 1, 0, 1);
            dueMending(coming(0, 0, 2, 0, 7, 3, 44), 1, 5, 6);
        });
        says("26: the lesser POINT of the first (1), the other one (2)", () -> {
            dueMending(star(4), 6, 0, 1);
            // 0 and 5, 3 and 4, 3 and 5, 4 and 5: the first by their lesser points
            dueMending(coming(0, 0, 3, 5, 8, 14), 4, 0, 5);
            MeetingNets x = untied(10);
            x.come(0);
            x.come(1 << 10);
            x.come(1 << 10);
            x.come(1 << 10);
            dueMending(x, 6, 10, 11);
            due("now(1)", x.now(1), 3);
        });
        says("26: NONE: none such", () -> {
            due("mending(1)", star(6).mending(1), NONE);
            due("mending(2)", star(6).mending(2), NONE);
        });
        says("26: NONE: another what", () -> {
            for (int what : new int[] {-1, 3, 4, MAX, MIN}) {
                due("mending(" + what + ")", star(4).mending(what), NONE);
                due("mending(" + what + ") with a cover", full(4).mending(what), NONE);
            }
        });
        says("26: (0 and NONE if there is a COVER.)", () -> {
            for (MeetingNets x : new MeetingNets[] {new MeetingNets(), untied(1), full(2), path(4), full(14), ring(5)}) {
                due("mending(0)", x.mending(0), 0);
                due("mending(1)", x.mending(1), NONE);
                due("mending(2)", x.mending(2), NONE);
            }
        });
    }

    private void dueMending(MeetingNets x, int many, int lesser, int other) {
        dueUnchanged("mending()", x, () -> {
            due("mending(0)", x.mending(0), many);
            due("mending(1)", x.mending(1), lesser);
            due("mending(2)", x.mending(2), other);
        });
    }

    private void mays() {
        says("27: Whether there is a COVER when a POINT has COME, TIED to a set: 1, 0: to none, to all", () -> {
            due("may(0) of none", new MeetingNets().may(0), 1);
            due("may(0) of 13", full(13).may(0), 1);
            due("may() of 13 to all", full(13).may((1 << 13) - 1), 1);
            due("may() of 13 to all but one", full(13).may((1 << 12) - 1), 0);
            due("may() of 13 to the last", full(13).may(1 << 12), 1);
            due("may() of 13 to the last three", full(13).may(7 << 10), 0);
            due("may() to three untied", untied(3).may(7), 0);
            due("may() to the heart of two ends", star(3).may(1), 0);
            due("may(0) of a claw", star(4).may(0), 0);
            due("may(15) of a claw", star(4).may(15), 0);
        });
        says("27: NONE: there are 14", () -> {
            due("may(0) of 14", untied(14).may(0), NONE);
            due("may(1) of 14", full(14).may(1), NONE);
        });
        says("27: NONE: no such set", () -> {
            for (int n = 0; n < 14; n++) {
                MeetingNets x = untied(n);
                for (int set : new int[] {1 << n, -1, MIN, MAX, 1 << 14, 1 << 31 | 1}) {
                    due("may(" + set + ") at " + n, x.may(set), NONE);
                }
            }
        });
        says("27: when it has COME: none does", () -> {
            MeetingNets x = path(3);
            dueUnchanged("may()", x, () -> due("may(2)", x.may(2), 0));
            dueUnchanged("may()", x, () -> due("may(5)", x.may(5), 1));
            due("covers()", x.covers(), 1);
        });
        says("28: By how many sets that is so: the set of none, too", () -> {
            due("mays() of none", new MeetingNets().mays(), 1);
            due("mays() of one", untied(1).mays(), 2);
            due("mays() of two", full(2).mays(), 4);
            // the middle one has two lines that don't meet: a third needs one of their ends
            due("mays() of a path of three", path(3).mays(), 7);
            due("mays() of a claw", star(4).mays(), 0);
        });
        says("28: NONE: there are more than 8 POINTS", () -> {
            // of untied ones: none, one, two
            due("mays() of eight untied", untied(8).mays(), 1 + 8 + 28);
            due("mays() of nine untied", untied(9).mays(), NONE);
            due("mays() of eight tied", full(8).mays(), 1 + 8 + 28 + 1);
            due("mays() of nine tied", full(9).mays(), NONE);
            due("mays() of 14", full(14).mays(), NONE);
            due("mays() of nine without a cover", star(9).mays(), NONE);
            MeetingNets x = untied(8);
            dueUnchanged("mays()", x, () -> x.mays());
        });
    }

    private void colours() {
        says("29: how many colours: none to 14", () -> {
            for (int n = 0; n <= 14; n++) {
                due("colours() of " + n, full(n).colours(), n);
            }
            due("colours() of untied", untied(14).colours(), 1);
            due("colours() of a ring of 13", ring(13).colours(), 3);
            due("colours() of a ring of 14", ring(14).colours(), 2);
        });
        says("COLOURED: by the fewest: more than a clump has, fewer than the least at each step", () -> {
            // Groetzsch's: without a triangle, four
            due("colours()", coming(0, 1, 2, 4, 9, 18, 5, 10, 20, 9, 31 << 5).colours(), 4);
            // a path told from its ends: 0-3-2-1
            due("colours() of a path", coming(0, 0, 2, 5).colours(), 2);
            // each of seven is tied to all but its own of the other seven: two, not seven
            due("colours()", crown().colours(), 2);
        });
        says("COLOURED: of like ones the first (POINT by POINT the least, from 0 on)", () -> {
            dueColours(path(4), 0, 1, 0, 1);
            dueColours(coming(0, 0, 2, 5), 0, 1, 0, 1);
            dueColours(crown(), 0, 1, 0, 1, 0, 1, 0, 1, 0, 1, 0, 1, 0, 1);
            dueColours(ring(5), 0, 1, 0, 1, 2);
            dueColours(coming(0, 0, 1, 3, 6), 0, 0, 1, 1, 2);
            dueColours(full(3), 0, 1, 2);
            dueColours(untied(3), 0, 0, 0);
            dueColours(star(4), 0, 1, 1, 1);
            // 0, 1, 2 untied, 3 tied to all of them, 4 to 2 and 3: 2 has the least one still
            dueColours(coming(0, 0, 0, 7, 12), 0, 0, 0, 1, 2);
        });
        says("30: The colour that a POINT has by that: of the NET as it is now", () -> {
            MeetingNets x = ring(5);
            dueColours(x, 0, 1, 0, 1, 2);
            x.part(0, 4);
            dueColours(x, 0, 1, 0, 1, 0);
            x.tie(0, 2);
            dueColours(x, 0, 1, 2, 0, 1);
            x.go(1);
            dueColours(x, 0, 1, 0, 1);
            due("colours()", x.colours(), 2);
            x.tie(1, 3);
            x.go(0);
            dueColours(x, 0, 1, 2);
            due("colours()", x.colours(), 3);
        });
        says("30: NONE: no such one", () -> {
            for (int p : new int[] {3, 4, -1, 14, 32, MAX, MIN}) {
                due("colourAt(" + p + ")", full(3).colourAt(p), NONE);
            }
            due("colourAt(0) of none", new MeetingNets().colourAt(0), NONE);
            due("colourAt(14) of 14", full(14).colourAt(14), NONE);
            due("colourAt(13) of 14", full(14).colourAt(13), 13);
        });
    }

    /** Even points and odd ones: each even one tied to all odd ones but the one next to it. */
    private static MeetingNets crown() {
        MeetingNets x = new MeetingNets();
        for (int p = 0; p < 14; p++) {
            int odd = 0x2aaa & (1 << p) - 1;
            int even = 0x1555 & (1 << p) - 1;
            x.come(p % 2 == 0 ? odd : even & ~(1 << p - 1));
        }
        return x;
    }

    private void dueColours(MeetingNets x, int... colours) {
        for (int p = 0; p < colours.length; p++) {
            due("colourAt(" + p + ")", x.colourAt(p), colours[p]);
        }
    }

    private void choices() {
        says("APART: the most: of none, of all", () -> {
            dueApart(new MeetingNets(), 0);
            dueApart(untied(1), 1);
            dueApart(untied(14), (1 << 14) - 1);
            dueApart(star(14), (1 << 14) - 2);
        });
        says("APART: of like ones the least number", () -> {
            dueApart(full(14), 1);
            dueApart(full(2), 1);
            dueApart(ring(4), set(0, 2));
            dueApart(ring(5), set(0, 2));
            dueApart(path(6), set(0, 2, 4));
            // 0 and 4, 1 and 3, 2 and 4: the number, not the first point, is the least
            dueApart(coming(0, 1, 3, 5, 10), set(1, 3));
            // the last point is in all of them
            dueApart(coming(0, 1, 2, 5, 0), set(0, 2, 4));
        });
        says("31: NONE: another what", () -> {
            for (int what : new int[] {-1, 2, 3, MAX, MIN}) {
                due("apart(" + what + ")", ring(4).apart(what), NONE);
                due("apart(" + what + ") of none", new MeetingNets().apart(what), NONE);
            }
        });
        says("CLUMP: (one POINT, none, too)", () -> {
            dueClump(new MeetingNets(), 0);
            dueClump(untied(1), 1);
            dueClump(untied(14), 1);
        });
        says("CLUMP: the most: of all", () -> {
            dueClump(full(14), (1 << 14) - 1);
            dueClump(full(2), 3);
            dueClump(coming(0, 1, 0, 4, 12), set(2, 3, 4));
        });
        says("CLUMP: likewise: of like ones the least number", () -> {
            dueClump(star(14), 3);
            dueClump(ring(14), 3);
            dueClump(coming(0, 1, 3, 6), set(0, 1, 2));
            // 0-3 and 1-2
            dueClump(coming(0, 0, 2, 1), set(1, 2));
            // the last point is in all of them
            dueClump(coming(0, 1, 0, 4, 15), set(0, 1, 4));
        });
        says("32: likewise: NONE: another what", () -> {
            for (int what : new int[] {-1, 2, 3, MAX, MIN}) {
                due("clump(" + what + ")", ring(4).clump(what), NONE);
                due("clump(" + what + ") of none", new MeetingNets().clump(what), NONE);
            }
        });
    }

    private void dueApart(MeetingNets x, int set) {
        due("apart(0)", x.apart(0), Integer.bitCount(set));
        due("apart(1)", x.apart(1), set);
    }

    private void dueClump(MeetingNets x, int set) {
        due("clump(0)", x.clump(0), Integer.bitCount(set));
        due("clump(1)", x.clump(1), set);
    }

    // ---- deeds drawn

    /** The draws of a seed, by longs. */
    private static final class Draws {
        private int s;

        Draws(int seed) {
            s = seed;
        }

        int next(int n) {
            s = (int) (s * 1103515245L + 12345L & 0xffffffffL);
            return (int) ((s & 0xffffffffL) / 256 % n);
        }
    }

    /** The least seed whose draws are as told: of how many, which. */
    private static int seedOf(int... draws) {
        for (int seed = 0; seed < 20_000_000; seed++) {
            Draws d = new Draws(seed);
            int k = 0;
            while (k < draws.length && d.next(draws[k]) == draws[k + 1]) {
                k += 2;
            }
            if (k >= draws.length) {
                return seed;
            }
        }
        throw new IllegalStateException("no such seed");
    }

    private void drawn() {
        says("33: n (1 to 60)", () -> {
            MeetingNets x = path(5);
            for (int n : new int[] {0, -1, 61, 62, 1000, MAX, MIN}) {
                dueUnchanged("drawn", x, () -> due("drawn(" + n + ", 1)", x.drawn(n, 1), NONE));
            }
            due("drawn(1, 1)", x.drawn(1, 1), 1);
            MeetingNets y = path(5);
            due("drawn(60, 4)", y.drawn(60, 4), byHand(path(5), 60, 4));
        });
        says("s becomes s * 1103515245 + 12345 (an int, wrapping), the draw is (s >>> 8) % n", () -> {
            for (int seed : new int[] {0, 1, -1, 7, -7, 12345, 1 << 30, MAX, MIN, MAX - 1, MIN + 1}) {
                MeetingNets x = path(7);
                MeetingNets y = path(7);
                due("drawn(60, " + seed + ")", x.drawn(60, seed), byHand(y, 60, seed));
                dueLike("drawn by " + seed, x, y);
            }
        });
        says("33: how many were done: of n not more, each once", () -> {
            for (int n = 1; n <= 60; n++) {
                MeetingNets x = new MeetingNets();
                MeetingNets y = new MeetingNets();
                due("drawn(" + n + ", 3)", x.drawn(n, 3), byHand(y, n, 3));
                dueLike("drawn " + n, x, y);
            }
        });
        says("33: each call draws by its own seed", () -> {
            MeetingNets x = path(6);
            x.drawn(30, 9);
            x.undo();
            MeetingNets y = path(6);
            due("drawn(5, 8)", x.drawn(5, 8), byHand(y, 5, 8));
            dueLike("the second call", x, y);
        });
    }

    /** Does the deeds of a seed by other calls: how many were done. */
    private static int byHand(MeetingNets y, int n, int seed) {
        Draws d = new Draws(seed);
        int done = 0;
        for (int k = 0; k < n; k++) {
            int kind = d.next(6);
            int points = y.now(0);
            if (kind == 0 && points > 0) {
                y.go(d.next(points));
                done++;
            } else if (kind == 1 && points < 14) {
                int set = 0;
                for (int p = 0; p < points; p++) {
                    set |= d.next(3) == 0 ? 1 << p : 0;
                }
                y.come(set);
                done++;
            } else if (kind > 1 && points > 1) {
                int a = d.next(points);
                int b = d.next(points - 1);
                b = b < a ? b : b + 1;
                if (y.tie(a, b) == 1) {
                    y.part(a, b);
                }
                done++;
            }
        }
        return done;
    }

    private void dueLike(String where, MeetingNets x, MeetingNets y) {
        due(where + ": now(0)", x.now(0), y.now(0));
        for (int p = 0; p < y.now(0) && p < x.now(0); p++) {
            due(where + ": near(" + p + ")", x.near(p), y.near(p));
        }
    }

    private void drawnGoing() {
        says("0: a draw of POINTS: it GOES: the first, the last, the only one", () -> {
            MeetingNets x = coming(0, 1, 2, 1);
            due("drawn", x.drawn(1, seedOf(6, 0, 4, 0)), 1);
            dueNet("the first one went", x, 0, 1, 0);
            due("drawn", x.drawn(1, seedOf(6, 0, 3, 2)), 1);
            dueNet("the last one went", x, 0, 1);
            MeetingNets y = untied(1);
            due("drawn", y.drawn(1, seedOf(6, 0)), 1);
            due("now(0)", y.now(0), 0);
            MeetingNets z = path(14);
            due("drawn", z.drawn(1, seedOf(6, 0, 14, 13)), 1);
            due("now(0)", z.now(0), 13);
            due("near(12)", z.near(12), 1 << 11);
        });
        says("(none: no draw, nothing)", () -> {
            MeetingNets x = new MeetingNets();
            due("drawn", x.drawn(1, seedOf(6, 0)), 0);
            due("now(7)", x.now(7), 0);
            // with a draw between, the third one would tell the deed
            due("drawn", x.drawn(2, seedOf(6, 0, 6, 1, 6, 0)), 1);
            due("now(0)", x.now(0), 1);
            MeetingNets y = untied(1);
            due("drawn", y.drawn(3, seedOf(6, 0, 1, 0, 6, 0, 6, 1, 6, 0)), 2);
            due("now(0)", y.now(0), 1);
        });
    }

    private void drawnComing() {
        says("1: POINT by POINT a draw of 3: 0: TIED to it: such a POINT COMES", () -> {
            MeetingNets x = path(3);
            due("drawn", x.drawn(1, seedOf(6, 1, 3, 0, 3, 1, 3, 0)), 1);
            dueNet("tied to the first and the last", x, 0, 1, 2, 5);
            MeetingNets y = path(3);
            due("drawn", y.drawn(1, seedOf(6, 1, 3, 2, 3, 0, 3, 1)), 1);
            dueNet("tied to the middle one", y, 0, 1, 2, 2);
            MeetingNets z = path(3);
            due("drawn", z.drawn(1, seedOf(6, 1, 3, 1, 3, 2, 3, 2)), 1);
            dueNet("tied to none", z, 0, 1, 2, 0);
            MeetingNets w = path(3);
            due("drawn", w.drawn(1, seedOf(6, 1, 3, 0, 3, 0, 3, 0)), 1);
            dueNet("tied to all", w, 0, 1, 2, 7);
        });
        says("1: of none and of 13 POINTS, too", () -> {
            MeetingNets x = new MeetingNets();
            due("drawn", x.drawn(2, seedOf(6, 1, 6, 0, 1, 0, 6, 1)), 2);
            due("now(0)", x.now(0), 0);
            MeetingNets y = path(13);
            due("drawn", y.drawn(1, seedOf(6, 1)), 1);
            due("now(0)", y.now(0), 14);
        });
        says("(if there are 14: no draws)", () -> {
            MeetingNets x = path(14);
            dueUnchanged("drawn", x, () -> due("drawn", x.drawn(1, seedOf(6, 1)), 0));
            due("drawn", x.drawn(2, seedOf(6, 1, 6, 0, 14, 3)), 1);
            dueNet("point 3 went", x, 0, 1, 2, 0, 8, 16, 32, 64, 128, 256, 512, 1024, 2048);
            MeetingNets y = path(14);
            due("drawn", y.drawn(3, seedOf(6, 1, 6, 1, 6, 2, 14, 0, 13, 0)), 1);
            due("near(0)", y.near(0), 0);
            due("near(1)", y.near(1), 4);
        });
    }

    private void drawnTies() {
        says("else: a draw of 6 that is 2, 3, 4 or 5", () -> {
            for (int kind = 2; kind < 6; kind++) {
                MeetingNets x = path(4);
                due("drawn", x.drawn(1, seedOf(6, kind, 4, 0, 3, 2)), 1);
                dueNet("0 and 3 tied", x, 0, 1, 2, 5);
            }
        });
        says("a draw of POINTS less 1 (and 1, if that is not below the first one)", () -> {
            for (int a = 0; a < 4; a++) {
                for (int b = 0; b < 3; b++) {
                    MeetingNets x = untied(4);
                    int other = b < a ? b : b + 1;
                    due("drawn", x.drawn(1, seedOf(6, 3, 4, a, 3, b)), 1);
                    due("near(" + a + ")", x.near(a), 1 << other);
                    due("near(" + other + ")", x.near(other), 1 << a);
                    due("now(1)", x.now(1), 1);
                }
            }
            MeetingNets y = untied(14);
            due("drawn", y.drawn(1, seedOf(6, 2, 14, 13, 13, 12)), 1);
            due("near(13)", y.near(13), 1 << 12);
            MeetingNets z = untied(14);
            due("drawn", z.drawn(1, seedOf(6, 2, 14, 12, 13, 12)), 1);
            due("near(12)", z.near(12), 1 << 13);
        });
        says("these two are TIED, or PARTED, if they are TIED", () -> {
            MeetingNets x = untied(2);
            due("drawn", x.drawn(1, seedOf(6, 2, 2, 0, 1, 0)), 1);
            due("now(1)", x.now(1), 1);
            due("drawn", x.drawn(1, seedOf(6, 2, 2, 1, 1, 0)), 1);
            due("now(1)", x.now(1), 0);
            due("drawn", x.drawn(2, seedOf(6, 2, 2, 1, 1, 0, 6, 3, 2, 0)), 2);
            due("now(1)", x.now(1), 0);
            due("undo()", x.undo(), 4);
            due("undo()", x.undo(), 3);
            due("now(1)", x.now(1), 1);
        });
        says("with fewer than two POINTS: no draws, nothing", () -> {
            for (int n = 0; n < 2; n++) {
                MeetingNets x = untied(n);
                dueUnchanged("drawn", x, () -> due("drawn", x.drawn(1, seedOf(6, 4)), 0));
                // with a draw or two between, another one would tell the deed
                due("drawn", x.drawn(2, seedOf(6, 4, 6, 1, 6, 2, 6, 3)), 1);
                due("now(0)", x.now(0), n + 1);
            }
            MeetingNets y = untied(1);
            due("drawn", y.drawn(3, seedOf(6, 2, 6, 3, 6, 0)), 1);
            due("now(0)", y.now(0), 0);
        });
    }

    // ---- acts undone, images

    private void undo() {
        says("34: The latest tie(), part() that was 0: no other one", () -> {
            MeetingNets x = untied(3);
            x.tie(0, 1);
            x.tie(0, 1);
            x.tie(0, 3);
            x.tie(2, 2);
            due("undo() of tie()", x.undo(), 3);
            due("now(1)", x.now(1), 0);
            x.tie(0, 1);
            x.part(1, 0);
            x.part(1, 0);
            x.part(0, 3);
            x.part(2, 2);
            due("undo() of part()", x.undo(), 4);
            due("near(0)", x.near(0), 2);
        });
        says("34: The latest come(), go(), meet(), back() that was not NONE: no other one", () -> {
            MeetingNets x = star(4);
            x.come(16);
            x.go(4);
            x.back();
            due("now(7)", x.now(7), 4);
            due("go(1)", x.go(1), 3);
            due("meet()", x.meet(), 2);
            due("back()", x.back(), 3);
            due("undo() of back()", x.undo(), 6);
            dueNet("met", x, 0, 1);
            due("undo() of meet()", x.undo(), 5);
            dueNet("less one", x, 0, 1, 1);
            due("undo() of go()", x.undo(), 4);
            dueNet("a claw", x, 0, 1, 1, 1);
            due("undo() of come()", x.undo(), 3);
            dueNet("less the last", x, 0, 1, 1);
            MeetingNets y = full(6);
            due("meet()", y.meet(), NONE);
            due("now(7)", y.now(7), 6);
        });
        says("34: that was not NONE: 0 isn't", () -> {
            MeetingNets x = new MeetingNets();
            due("meet()", x.meet(), 0);
            due("back()", x.back(), 0);
            due("come(0)", x.come(0), 0);
            due("go(0)", x.go(0), 0);
            due("now(7)", x.now(7), 4);
        });
        says("34: drawn() above 0: as one; not when it is 0 or NONE", () -> {
            MeetingNets x = path(5);
            due("drawn(60, 5)", x.drawn(60, 5), byHand(path(5), 60, 5));
            due("now(7)", x.now(7), 6);
            x.drawn(0, 5);
            x.drawn(61, 5);
            due("undo()", x.undo(), 5);
            dueNet("undrawn", x, 0, 1, 2, 4, 8);
            MeetingNets y = new MeetingNets();
            due("drawn", y.drawn(2, seedOf(6, 0, 6, 5)), 0);
            due("undo()", y.undo(), NONE);
        });
        says("34: how many more can be (8 at most are kept)", () -> {
            MeetingNets x = new MeetingNets();
            for (int k = 0; k < 10; k++) {
                x.come(0);
            }
            for (int k = 7; k >= 0; k--) {
                due("undo()", x.undo(), k);
                due("now(0)", x.now(0), k + 2);
            }
            due("undo()", x.undo(), NONE);
            due("now(0)", x.now(0), 2);
            for (int k = 0; k < 9; k++) {
                x.come(3);
            }
            due("undo()", x.undo(), 7);
            x.come(1);
            due("now(7)", x.now(7), 8);
            x.come(1);
            due("undo()", x.undo(), 7);
            due("now(0)", x.now(0), 11);
        });
        says("34: NONE: none is", () -> {
            MeetingNets x = new MeetingNets();
            due("undo()", x.undo(), NONE);
            x.come(0);
            due("undo()", x.undo(), 0);
            dueUnchanged("undo()", x, () -> due("undo()", x.undo(), NONE));
            MeetingNets y = of(CLAW);
            dueUnchanged("undo()", y, () -> due("undo()", y.undo(), NONE));
        });
        says("34: questions, images and the tape are no acts", () -> {
            MeetingNets x = path(3);
            x.covers();
            x.mays();
            x.mending(0);
            x.depth();
            x.colours();
            x.piece();
            x.image(0);
            x.feed(0, 0, 0, 0, 0);
            x.end(3);
            due("undo()", x.undo(), 2);
            due("now(8)", x.now(8), 3);
            dueNet("less the last", x, 0, 1);
        });
    }

    private void images() {
        says("35: place k (0, 1): each its own, the latest is kept", () -> {
            MeetingNets x = path(2);
            due("image(0)", x.image(0), true);
            x.come(3);
            due("image(1)", x.image(1), true);
            x.go(0);
            due("restore(0)", x.restore(0), true);
            dueNet("place 0", x, 0, 1);
            due("restore(1)", x.restore(1), true);
            dueNet("place 1", x, 0, 1, 3);
            x.go(0);
            x.go(0);
            due("image(0) again", x.image(0), true);
            x.come(1);
            x.restore(0);
            dueNet("place 0", x, 0);
            x.restore(1);
            dueNet("place 1", x, 0, 1, 3);
        });
        says("35: false: no such one", () -> {
            for (int k : new int[] {-1, 2, 3, 32, 33, MAX, MIN}) {
                MeetingNets x = path(3);
                dueUnchanged("image", x, () -> due("image(" + k + ")", x.image(k), false));
                due("restore(0)", x.restore(0), false);
                due("restore(1)", x.restore(1), false);
            }
        });
        says("35: The NET is kept: without POINTS and with 14", () -> {
            MeetingNets x = new MeetingNets();
            due("image(0)", x.image(0), true);
            x.come(0);
            due("restore(0)", x.restore(0), true);
            due("now(0)", x.now(0), 0);
            MeetingNets y = full(14);
            due("image(1)", y.image(1), true);
            y.part(12, 13);
            y.go(0);
            due("restore(1)", y.restore(1), true);
            due("now(1)", y.now(1), 91);
        });
        says("35: is kept: no act is undone or lost by it", () -> {
            MeetingNets x = path(3);
            dueUnchanged("image(0)", x, () -> x.image(0));
            due("undo()", x.undo(), 2);
            due("restore(0)", x.restore(0), true);
            dueNet("restored", x, 0, 1, 2);
        });
        says("36: It is as kept: as often as one likes, whatever came between", () -> {
            MeetingNets x = path(3);
            x.image(1);
            for (int k = 0; k < 3; k++) {
                x.meet();
                x.drawn(9, k);
                put(x, "point a;");
                x.net();
                due("restore(1)", x.restore(1), true);
                dueNet("restored", x, 0, 1, 2);
            }
        });
        says("36: (the tape, what fault() tells, stays", () -> {
            MeetingNets x = of("line a b;");
            x.image(0);
            put(x, "point a;");
            due("restore(0)", x.restore(0), true);
            due("now(8)", x.now(8), 8);
            due("fault()", x.fault(), 2);
            due("net()", x.net(), 1);
            due("restore(0)", x.restore(0), true);
            due("fault()", x.fault(), 0);
        });
        says("36: nothing can be undone)", () -> {
            MeetingNets x = path(3);
            x.image(0);
            due("restore(0)", x.restore(0), true);
            due("now(7)", x.now(7), 0);
            due("undo()", x.undo(), NONE);
            dueNet("restored", x, 0, 1, 2);
            x.go(0);
            due("undo()", x.undo(), 0);
            dueNet("undone", x, 0, 1, 2);
        });
        says("36: false: no such one", () -> {
            MeetingNets x = path(3);
            x.image(0);
            x.image(1);
            for (int k : new int[] {-1, 2, 3, 32, 33, MAX, MIN}) {
                dueUnchanged("restore", x, () -> due("restore(" + k + ")", x.restore(k), false));
            }
        });
        says("36: false: or nothing is kept there", () -> {
            for (int k = 0; k < 2; k++) {
                int other = 1 - k;
                MeetingNets x = path(3);
                dueUnchanged("restore", x, () -> due("restore of neither", x.restore(other), false));
                x.image(k);
                dueUnchanged("restore", x, () -> due("restore of the other one", x.restore(other), false));
                due("restore(" + k + ")", x.restore(k), true);
            }
        });
    }

    private void calls() {
        says("An object is used for at most 512 calls: the last one is answered, too", () -> {
            MeetingNets x = new MeetingNets();
            for (int k = 0; k < 14; k++) {
                x.come(k == 0 ? 0 : 1 << k - 1);
            }
            for (int k = 14; k < 510; k += 2) {
                due("tie(0, 13), call " + k, x.tie(0, 13), 0);
                due("part(13, 0), call " + (k + 1), x.part(13, 0), 0);
            }
            due("call 511", x.cliques(), 13);
            due("call 512", x.undo(), 7);
        });
    }
}
