/** Each sentence of the document on texts, their faults and the tape that names a boundary case. */
public final class BoundariesOfTexts extends Sentences {
    private static final String TWO = "point a;point b;";

    public static void main(String[] args) {
        BoundariesOfTexts all = new BoundariesOfTexts();
        all.tokens();
        all.rows();
        all.order();
        all.faultsOfTokens();
        all.faultsOfTexts();
        all.faultsOfNames();
        all.faultsOfPoints();
        all.tape();
        all.net();
        all.fault();
        all.finish();
    }

    private void tokens() {
        says("TOKENS of a text, with blanks (32, 10) between them or not", () -> {
            text("point a;point b;line a b;", 3, 0);
            text(" \n point\na\n;\n\npoint  b ;line\n \na\nb\n; \n", 3, 0);
            text("\npoint a;", 1, 0);
            text("point a;\n", 1, 0);
        });
        says("blanks (32, 10): no other byte is one", () -> {
            for (int c = 0; c < 256; c++) {
                boolean blank = c == 32 || c == 10;
                text("point a;" + (char) c, blank ? 1 : -1 - 8, blank ? 0 : 1);
            }
        });
        says("WORDS: small letters, 1 to 7: one letter, seven", () -> {
            text("point a;point z;line z a;", 3, 0);
            text("point abcdefg;point zyxwvut;line zyxwvut abcdefg;", 3, 0);
            text("point aaaaaaa;point aaaaaa;point aaaaa;point aaaa;point aaa;point aa;point a;", 7, 0);
        });
        says("WORDS: 1 to 7: eight letters are none", () -> {
            text("point abcdefgh;", -1 - 6, 1);
            text("point abcdefgi;point abcdefgh;", -1 - 6, 1);
            text("point abcdefg;line abcdefgh abcdefg;", -1 - 19, 1);
            text("point abcdefghijklmnopqrstuvwxyz;", -1 - 6, 1);
            text("pointpoint a;", -1, 1);
        });
        says("WORDS: small letters: the bytes next to 'a' and 'z', capitals, digits and those above 127 are none", () -> {
            text("point `;", -1 - 6, 1);
            text("point {;", -1 - 6, 1);
            text("point A;", -1 - 6, 1);
            text("point Z;", -1 - 6, 1);
            text("point 7;", -1 - 6, 1);
            text("point \u00e1;", -1 - 6, 1);
            text("Point a;", -1, 1);
            text("POINT a;", -1, 1);
        });
        says("a WORD goes on as long as small letters do", () -> {
            text("pointa;", -1, 1);
            text("pointpoi;", -1, 1);
            text("point a;point b;lineab;", -1 - 16, 1);
            text("point a;point b;line ab;", -1 - 21, 2);
            text("point abcdefg h;", -1 - 14, 1);
            text("point a;point ab;line ab a;", 3, 0);
            text("point aB;", -1 - 7, 1);
            text("point a1;", -1 - 7, 1);
            text("point a\nb;", -1 - 8, 1);
        });
        says("the sign ;: it needs no blank, and no other sign is one", () -> {
            text("point a;", 1, 0);
            text("point a ;", 1, 0);
            text("point a:", -1 - 7, 1);
            text("point a,", -1 - 7, 1);
            text("point a<", -1 - 7, 1);
        });
    }

    private void rows() {
        says("A NET is { ROW ; }: no row, too", () -> {
            text("", 0, 0);
            text(" ", 0, 0);
            text("\n", 0, 0);
            text(";", -1, 1);
            text(" ;", -1 - 1, 1);
        });
        says("{ ROW ; }: each row has its sign, and just one", () -> {
            text("point a;;", -1 - 8, 1);
            text("point a point b;", -1 - 8, 1);
            text("point a;point b;line a b line", -1 - 25, 1);
            text("point a;point b;line a b;;", -1 - 25, 1);
        });
        says("ROW: 'point' NAME: a single one", () -> {
            text("point;", -1 - 5, 1);
            text("point ;", -1 - 6, 1);
            text("point a b;", -1 - 8, 1);
        });
        says("ROW: 'line' POINT POINT: two, no fewer, no more", () -> {
            text("line;", -1 - 4, 1);
            text(TWO + "line a;", -1 - 22, 1);
            text(TWO + "line a b a;", -1 - 25, 1);
            text(TWO + "line a b;", 3, 0);
        });
        says("unlike POINTS", () -> {
            text(TWO + "line a a;", -1 - 23, 2);
            text(TWO + "line b b;", -1 - 23, 2);
        });
        says("not told yet as a LINE, in whatever order", () -> {
            text(TWO + "line a b;line a b;", -1 - 32, 2);
            text(TWO + "line a b;line b a;", -1 - 32, 2);
            text(TWO + "line b a;line a b;", -1 - 32, 2);
            text(TWO + "point c;line a b;line b c;line c a;line a c;", -1 - 58, 2);
            text(TWO + "point c;line a b;line b c;line c a;", 6, 0);
        });
        says("NAME: a WORD, none of these two", () -> {
            text("point point;", -1 - 6, 1);
            text("point line;", -1 - 6, 1);
            text("point poin;point points;point lin;point lines;line lines poin;", 5, 0);
        });
        says("NAME: told once", () -> {
            text("point a;point a;", -1 - 14, 2);
            text("point abcdefg;point abcdefg;", -1 - 20, 2);
            text("point a;point b;point aa;point b;", -1 - 31, 2);
            text("point a;point aa;point ab;point b;point ba;", 5, 0);
        });
    }

    private void order() {
        says("14 POINTS at most", () -> {
            text(pointRows(13), 13, 0);
            text(pointRows(14), 14, 0);
            text(pointRows(14) + "line a n;line m n;", 16, 0);
            text(pointRows(15), -1 - 14 * 8, 3);
        });
        says("numbered from 0 as told", () -> {
            dueNet("c, a, b", of("point c;point a;point b;line b c;"), 0, 0, 1);
            dueNet("rows of lines between", of("point z;point y;line y z;point x;line x z;"), 0, 1, 1);
            MeetingNets x = of(pointRows(14) + "line n a;");
            due("near(13)", x.near(13), 1);
            due("near(0)", x.near(0), 1 << 13);
        });
        says("LINES in order of their lesser POINTS, then of the other ones", () -> {
            MeetingNets x = of("point a;point b;point c;point d;line d c;line d b;line b c;line d a;line a b;");
            int[][] lines = {{0, 1}, {0, 3}, {1, 2}, {1, 3}, {2, 3}};
            for (int l = 0; l < 5; l++) {
                due("line(" + l + ", 0)", x.line(l, 0), lines[l][0]);
                due("line(" + l + ", 1)", x.line(l, 1), lines[l][1]);
            }
        });
        says("TIED are POINTS of a LINE: both of them, and no others", () -> {
            MeetingNets x = of("point a;point b;point c;line c a;");
            due("near(0)", x.near(0), 4);
            due("near(1)", x.near(1), 0);
            due("near(2)", x.near(2), 1);
        });
    }

    private void faultsOfTokens() {
        says("1 no TOKEN (at it): wherever one is due", () -> {
            text("?point a;", -1, 1);
            text("point ?a;", -1 - 6, 1);
            text("point a?;", -1 - 7, 1);
            text("point a;?", -1 - 8, 1);
            text(TWO + "line ?a b;", -1 - 21, 1);
            text(TWO + "line a ?b;", -1 - 23, 1);
            text(TWO + "line a b?;", -1 - 24, 1);
            text(TWO + "line a b;?", -1 - 25, 1);
            text("\tpoint a;", -1, 1);
            text("point a;\u0000", -1 - 8, 1);
        });
        says("1 one that can't come (at it): where a ROW is due", () -> {
            text("a;", -1, 1);
            text("points a;", -1, 1);
            text("poin a;", -1, 1);
            text("lin a b;", -1, 1);
            text("lines a b;", -1, 1);
            text("point a;b;", -1 - 8, 1);
            text("  a;", -1 - 2, 1);
        });
        says("1 one that can't come (at it): where a NAME is due", () -> {
            text("point  ;", -1 - 7, 1);
            text("point\npoint a;", -1 - 6, 1);
            text("point line;", -1 - 6, 1);
        });
        says("1 one that can't come (at it): where a POINT is due", () -> {
            text(TWO + "line ;", -1 - 21, 1);
            text(TWO + "line line a;", -1 - 21, 1);
            text(TWO + "line point a;", -1 - 21, 1);
            text(TWO + "line a ;", -1 - 23, 1);
            text(TWO + "line a line;", -1 - 23, 1);
            text(TWO + "line a point;", -1 - 23, 1);
        });
        says("1 one that can't come (at it): where ; is due", () -> {
            text("point a point;", -1 - 8, 1);
            text("point a line;", -1 - 8, 1);
            text("point a a;", -1 - 8, 1);
            text(TWO + "line a b a;", -1 - 25, 1);
            text(TWO + "line a b point;", -1 - 25, 1);
            text(TWO + "line a b line;", -1 - 25, 1);
        });
        says("1 the end: how many bytes there are", () -> {
            text("point", -1 - 5, 1);
            text("point ", -1 - 6, 1);
            text("point a", -1 - 7, 1);
            text("point a \n ", -1 - 10, 1);
            text("line", -1 - 4, 1);
            text(TWO + "line", -1 - 20, 1);
            text(TWO + "line a", -1 - 22, 1);
            text(TWO + "line a  ", -1 - 24, 1);
            text(TWO + "line a b", -1 - 24, 1);
            text(TWO + "line a b\n", -1 - 25, 1);
        });
    }

    private void faultsOfTexts() {
        says("A NET is a text of at most 700 bytes: 700 are none too many", () -> {
            text(longer("point a;", 700), 1, 0);
            text(blanks(692) + "point a;", 1, 0);
            text(blanks(700), 0, 0);
        });
        says("1 700, if there are more", () -> {
            text(longer("point a;", 701), -1 - 700, 1);
            text(longer("point a;", 740), -1 - 700, 1);
            text(blanks(701), -1 - 700, 1);
            text(blanks(700) + "point a;", -1 - 700, 1);
            text(blanks(700) + "?", -1 - 700, 1);
            text(blanks(693) + "point a;", -1 - 700, 1);
            text(longer("point a;", 720) + "?", -1 - 700, 1);
        });
        says("1 700, if there are more: with a row that has no end, too; with 700 the end is at 700, with 699 at 699", () -> {
            text(longer("point a", 701), -1 - 700, 1);
            text(longer("point a", 740), -1 - 700, 1);
            text(longer("point a", 720) + ";", -1 - 700, 1);
            text(longer("point", 739) + "a", -1 - 700, 1);
            text(longer("point a", 700), -1 - 700, 1);
            text(longer("point a", 699), -1 - 699, 1);
        });
        says("and no FAULT is ahead: it is told if one is", () -> {
            text(longer("point a;;", 740), -1 - 8, 1);
            text(longer("point a;point a;", 740), -1 - 14, 2);
            text(longer(pointRows(15), 740), -1 - 112, 3);
            text(longer("point a;", 699) + "?" + blanks(10), -1 - 699, 1);
            text(longer("point a;", 699) + ";" + blanks(10), -1 - 699, 1);
            text(longer("point a;point ", 699) + "a;", -1 - 699, 2);
            text(longer(pointRows(14), 699) + "point z;", -1 - 699, 3);
        });
        says("and no FAULT is ahead: a TOKEN that begins at 700 or behind it tells none", () -> {
            text(longer("point a;point ", 700) + "a;", -1 - 700, 1);
            text(longer(pointRows(14), 700) + "point z;", -1 - 700, 1);
            text(longer(pointRows(14), 705) + "point z;", -1 - 700, 1);
            text(longer("point a;", 700) + ";", -1 - 700, 1);
        });
        says("TOKENS that begin ahead of it are read whole: no fault of a word that is cut by 700", () -> {
            text(longer("point ", 695) + "abcdef;", -1 - 700, 1);
            text(longer("point ", 699) + "abcdefg;", -1 - 700, 1);
            text(longer("point a;point ", 699) + "aa;", -1 - 700, 1);
            text(longer("point a;", 699) + "point b;", -1 - 700, 1);
            text(longer("point a;", 697) + "line a a;", -1 - 700, 1);
        });
        says("TOKENS that begin ahead of it are read whole: the fault of a word that would be none if it were cut", () -> {
            text(longer("point ", 695) + "abcdefgh;", -1 - 695, 1);
            text(longer("point ", 699) + "abcdefgh;", -1 - 699, 1);
            text(longer("point aa;point ", 699) + "aa;", -1 - 699, 2);
            text(longer("point a;point b;line b ", 699) + "aa;", -1 - 699, 2);
            text(longer("point a;", 695) + "pointed;", -1 - 695, 1);
            text(longer("point a;", 696) + "linea;", -1 - 696, 1);
            text(longer("point ", 699) + "line;", -1 - 699, 1);
        });
        says("FAULTS, the first along the text", () -> {
            text("point a;point a;?", -1 - 14, 2);
            text("point a;?point a;", -1 - 8, 1);
            text("point a;line b a;point a;", -1 - 13, 2);
            text("line a b;point a;point b;", -1 - 5, 2);
            text(pointRows(15) + ";", -1 - 112, 3);
            text(pointRows(14) + "line z a;point o;", -1 - 117, 2);
        });
        says("of one TOKEN the least: 'point' and 'line' can't be POINTS, nor were they told", () -> {
            text("line point a;", -1 - 5, 1);
            text("line line a;", -1 - 5, 1);
            text("point a;line a point;", -1 - 15, 1);
        });
        says("of one TOKEN the least: a fifteenth 'point' that can't come", () -> {
            text(pointRows(14) + "line point a;", -1 - 117, 1);
            text(pointRows(14) + "line a b point", -1 - 121, 1);
            text(pointRows(14) + "line a point", -1 - 119, 1);
        });
    }

    private void faultsOfNames() {
        says("2 a NAME told twice (at the WORD)", () -> {
            text("point a;point a;", -1 - 14, 2);
            text("point a;point\n\na;", -1 - 15, 2);
            text("point a;point a", -1 - 14, 2);
            text(pointRows(13) + "point a;", -1 - 110, 2);
            text(pointRows(13) + "point m;", -1 - 110, 2);
        });
        says("2 a NAME not told (at the WORD): the first or the second of a line, or not yet", () -> {
            text("line a b;", -1 - 5, 2);
            text("point a;line b a;", -1 - 13, 2);
            text("point a;line a b;", -1 - 15, 2);
            text("point a;line a b;point b;", -1 - 15, 2);
            text("point a;line aa a;", -1 - 13, 2);
            text("point aa;line a aa;", -1 - 14, 2);
            text("point ab;line ab ba;", -1 - 17, 2);
        });
        says("2 a second POINT that is the first one (at the WORD)", () -> {
            text("point a;line a a;", -1 - 15, 2);
            text("point a;line a  a", -1 - 16, 2);
            text(pointRows(14) + "line n n;", -1 - 119, 2);
        });
        says("2 or of a LINE that was told (at the WORD): at its second one", () -> {
            text(TWO + "line a b;line a b", -1 - 32, 2);
            text(TWO + "line a b;line b  a;", -1 - 33, 2);
            text(pointRows(14) + "line m n;line n m;", -1 - 128, 2);
        });
    }

    private void faultsOfPoints() {
        says("3 a fifteenth POINT (at 'point')", () -> {
            text(pointRows(14) + "point o;", -1 - 112, 3);
            text(pointRows(14) + "\n point o;", -1 - 114, 3);
            text(pointRows(14) + "line a b;point o;", -1 - 121, 3);
        });
        says("3 (at 'point'): whatever is behind it", () -> {
            text(pointRows(14) + "point", -1 - 112, 3);
            text(pointRows(14) + "point a;", -1 - 112, 3);
            text(pointRows(14) + "point;", -1 - 112, 3);
            text(pointRows(14) + "point?", -1 - 112, 3);
        });
        says("3 a fifteenth POINT: another word is none", () -> {
            text(pointRows(14) + "points;", -1 - 112, 1);
            text(pointRows(14) + "poin o;", -1 - 112, 1);
        });
    }

    private void tape() {
        says("2: Twenty bytes come behind the tape: how many it has", () -> {
            MeetingNets x = new MeetingNets();
            for (int k = 1; k <= 37; k++) {
                due("feed " + k, x.feed(0, 0, 0, 0, 0), 20 * k);
            }
            MeetingNets y = new MeetingNets();
            y.feed(0, 0, 0, 0, 0);
            y.end(7);
            due("feed behind seven", y.feed(0, 0, 0, 0, 0), 27);
        });
        says("2: of each number the highest first", () -> {
            MeetingNets x = new MeetingNets();
            x.feed(0x706f696e, 0x7420613b, 0x706f696e, 0x7420623b, 0x6c696e65);
            x.feed(0x20612062, 0x3b202020, 0x20202020, 0x20202020, 0x20202020);
            due("net()", x.net(), 3);
            MeetingNets y = new MeetingNets();
            y.feed(0x2020200a, 0x200a2020, 0x20202020, 0x20202020, 0xff202020);
            due("net() with a byte of 255", y.net(), -1 - 16);
            MeetingNets z = new MeetingNets();
            z.feed(0x20202020, 0x20202020, 0x20202020, 0x20202020, 0x202020a0);
            due("net() with a byte of 160", z.net(), -1 - 19);
        });
        says("2: NONE if it would have more than 740: 740 it may have", () -> {
            MeetingNets x = new MeetingNets();
            put(x, blanks(720));
            due("feed at 720", x.feed(0, 0, 0, 0, 0), 740);
            due("feed at 740", x.feed(0, 0, 0, 0, 0), NONE);
            x.end(721);
            due("feed at 721", x.feed(0, 0, 0, 0, 0), NONE);
            x.end(720);
            due("feed at 720", x.feed(0, 0, 0, 0, 0), 740);
        });
        says("2: and none come, if it would have more than 740", () -> {
            MeetingNets x = new MeetingNets();
            put(x, longer("point a;", 730));
            due("feed at 730", x.feed(-1, -1, -1, -1, -1), NONE);
            due("now(8)", x.now(8), 730);
            due("end(731)", x.end(731), false);
            due("end(700)", x.end(700), true);
            due("net()", x.net(), 1);
        });
        says("3: The tape has its first n bytes alone: true", () -> {
            MeetingNets x = new MeetingNets();
            put(x, "point a;point b;????");
            due("end(20)", x.end(20), true);
            due("now(8)", x.now(8), 20);
            due("end(16)", x.end(16), true);
            due("now(8)", x.now(8), 16);
            due("net()", x.net(), 2);
            put(x, "point a;point b;");
            due("end(0)", x.end(0), true);
            due("now(8)", x.now(8), 0);
            due("end(0) again", x.end(0), true);
            due("net()", x.net(), 0);
        });
        says("3: false, if it has not so many", () -> {
            MeetingNets x = new MeetingNets();
            due("end(1)", x.end(1), false);
            put(x, "point a;point b;");
            due("end(17)", x.end(17), false);
            due("end(20)", x.end(20), false);
            due("end(max)", x.end(MAX), false);
            due("now(8)", x.now(8), 16);
            due("net()", x.net(), 2);
        });
        says("3: false, or n is below 0", () -> {
            MeetingNets x = new MeetingNets();
            due("end(-1)", x.end(-1), false);
            put(x, "point a;");
            due("end(-1)", x.end(-1), false);
            due("end(min)", x.end(MIN), false);
            due("now(8)", x.now(8), 8);
        });
    }

    private void net() {
        says("4: The tape (empty then)", () -> {
            MeetingNets x = new MeetingNets();
            put(x, "point a;");
            x.net();
            due("now(8)", x.now(8), 0);
            due("end(1)", x.end(1), false);
            due("net() again", x.net(), 0);
            due("now(0)", x.now(0), 0);
            due("feed", x.feed(0, 0, 0, 0, 0), 20);
        });
        says("4: empty then, even with a FAULT", () -> {
            MeetingNets x = new MeetingNets();
            put(x, "point a");
            due("net()", x.net(), -1 - 7);
            due("now(8)", x.now(8), 0);
            put(x, blanks(720));
            due("net()", x.net(), -1 - 700);
            due("now(8)", x.now(8), 0);
        });
        says("4: how many ROWS", () -> {
            text("", 0, 0);
            text("point a;", 1, 0);
            text(CLAW, 7, 0);
            // the shortest rows that 700 bytes can have, each of a line that wasn't told yet
            StringBuilder b = new StringBuilder(pointRows(14));
            int rows = 14;
            for (int p = 0; p < 14; p++) {
                for (int q = p + 1; q < 14 && b.length() + 9 <= 700; q++) {
                    b.append("line ").append((char) ('a' + p)).append(' ').append((char) ('a' + q)).append(';');
                    rows++;
                }
            }
            text(b.toString(), rows, 0);
        });
        says("4: -1 less the place of a FAULT: at 0, too", () -> {
            text("?", -1, 1);
            text(" ?", -2, 1);
        });
        says("4: it stays: the NET, its acts and images, with a FAULT", () -> {
            MeetingNets x = of(CLAW);
            x.tie(1, 2);
            x.image(1);
            put(x, "point a;point b;?");
            due("net()", x.net(), -1 - 16);
            dueNet("behind a fault", x, 0, 1, 3, 1);
            due("now(7)", x.now(7), 1);
            due("undo()", x.undo(), 0);
            dueNet("undone", x, 0, 1, 1, 1);
            due("restore(1)", x.restore(1), true);
            dueNet("restored", x, 0, 1, 3, 1);
        });
        says("A new NET: nothing can be undone", () -> {
            MeetingNets x = new MeetingNets();
            due("now(7) of a new object", x.now(7), 0);
            due("undo() of a new object", x.undo(), NONE);
            x.come(0);
            x.come(1);
            put(x, "point a;");
            due("now(7) ahead of net()", x.now(7), 2);
            x.net();
            due("now(7)", x.now(7), 0);
            due("undo()", x.undo(), NONE);
            dueNet("as told", x, 0);
            x.come(1);
            due("net() of nothing", x.net(), 0);
            due("undo()", x.undo(), NONE);
            due("now(0)", x.now(0), 0);
        });
    }

    private void fault() {
        says("5: 0 ahead of any net()", () -> {
            MeetingNets x = new MeetingNets();
            due("fault()", x.fault(), 0);
            put(x, "?");
            due("fault()", x.fault(), 0);
            x.come(-1);
            due("fault()", x.fault(), 0);
        });
        says("5: 0 without one", () -> {
            MeetingNets x = of("?");
            due("fault()", x.fault(), 1);
            put(x, "point a;");
            x.net();
            due("fault()", x.fault(), 0);
            put(x, "?");
            x.net();
            x.net();
            due("fault() of an empty tape", x.fault(), 0);
        });
        says("5: The kind of the FAULT of the latest net()", () -> {
            MeetingNets x = of("line a b;");
            due("fault()", x.fault(), 2);
            x.feed(0, 0, 0, 0, 0);
            due("fault() behind feed()", x.fault(), 2);
            x.end(0);
            x.come(0);
            x.undo();
            x.image(0);
            x.restore(0);
            due("fault() behind acts", x.fault(), 2);
            put(x, pointRows(15));
            x.net();
            due("fault()", x.fault(), 3);
            put(x, ";");
            x.net();
            due("fault()", x.fault(), 1);
        });
    }
}
